section REFPLAN2
variable {d : Nat} {b : Bool} {S : M2} {a B n : Nat} {set so : Int32}
theorem c232 {g : Mm → Prop} {N : M2} (hd : 7 ≤ d) (hI : INV b S) (hA : agr (pC b) S N) (ha : a ≤ 2) (hB : B < 1024) (hB2 : ∃ r, r < 10 ∧ B.testBit r = true) (hn1 : 1 ≤ n) (hn : n ≤ 12) (h38 : gI N 67 38 = nI a) (h37 : gI N 67 37 = so) (hso : soR a set so) (q : ∀ N', agr frk N N' → QrK a n so N' → (∀ k, k ≤ n → LtK b S a B set n k N') → g (FR b, N')) : WP d 107 232 0 [.ref 67, .int (nI n), .int (nI B), U, U, U, U, U, U] [] 107 (FR b, N) (rV g) := by
  obtain ⟨d, rfl⟩ := ex1 (e := 6) hd
  have hF0 : agr frk N (sI N 67 39 (nI n)) := agr_sI rfl (agr_r N)
  have hQ0 : QrK a n so (sI N 67 39 (nI n)) := ⟨by rw [gI_oj (by decide)]; exact h38, by rw [gI_oj (by decide)]; exact h37, gI_s ..⟩
  have fk : ∀ {N' : M2}, agr (fr [84, 85, 87]) (sI N 67 39 (nI n)) N' → agr frk N N' := fun h => agr_t hF0 (frk_s (by decide) h)
  -- from the last hour back
  have hours : ∀ k (N2 : M2) (u1 u4 u5 u6 u7 u8 : Value), k ≤ n → agr (fr [84, 85, 87]) (sI N 67 39 (nI n)) N2 → (∀ j, k ≤ j → j ≤ n → LtK b S a B set n j N2) → WP (d + 1) 107 232 37 [.ref 67, u1, .int (nI B), .int (nI k - 1), u4, u5, u6, u7, u8] [] 107 (FR b, N2) (rV g) := by
    intro k
    induction k with
    | zero =>
      intro N2 u1 u4 u5 u6 u7 u8 hk hF hlt
      exact v232_37 (brK_t (by decide) (q N2 (fk hF) (QrK_a (l := [84, 85, 87]) rfl hF hQ0) (fun j hj => hlt j (by omega) hj)))
    | succ k ih =>
      intro N2 u1 u4 u5 u6 u7 u8 hk hF hlt
      -- a mood and a last thing
      have one : ∀ m l (N3 : M2) (u8 : Value), m < 16 → l < 16 → agr (fr [84, 85, 87]) (sI N 67 39 (nI n)) N3 → LtK b S a B set n (k + 1) N3 → (∀ (N4 : M2) (v : Int32) (u7 u8 : Value), agr (fr [84, 85]) N3 N4 → v.toInt = wtK b S a B set n k (m * 16 + l) + offK a n k → WP (d + 1) 107 232 54 [.ref 67, u1, .int (nI B), .int (nI k), .int (nI m), .int (nI (l + 1)), .int v, u7, u8] [] 107 (FR b, sI N4 87 (k * 256 + (m * 16 + l)) v) (rV g)) → WP (d + 1) 107 232 67 [.ref 67, u1, .int (nI B), .int (nI k), .int (nI m), .int (nI l), .int (-1), .int 0, u8] [] 107 (FR b, N3) (rV g) := by
        intro m l N3 u8 hm hl hF3 hlt3 kk
        have on := off_nn (b := b) (S := S) (a := a) (B := B) (set := set) ha hB2 hn (k := k) (s := m * 16 + l) (by omega)
        have lp : ∀ c r (N4 : M2) (v : Int32) (u8 : Value), r + c = 10 → agr (fr [84, 85]) N3 N4 → v.toInt = max (-1) (mxI (fun r => bif B.testBit r then ptK b S a set n k (m * 16 + l) r + wtK b S a B set n (k + 1) (nxK b S k (m * 16 + l) r) else -1000) r + offK a n k) → WP (d + 1) 107 232 67 [.ref 67, u1, .int (nI B), .int (nI k), .int (nI m), .int (nI l), .int v, .int (nI r), u8] [] 107 (FR b, N4) (rV g) := by
          intro c
          induction c with
          | zero =>
            intro r N4 v u8 hr hF4 hv
            have : r = 10 := by omega
            subst this
            have e := m256 (k := k) (m := m) (l := l) (by omega) (by omega) (by omega)
            rw [← wt_s (by omega)] at hv
            refine v232_67 (brK_t (by decide) (iK_i (by rw [e]; omega) ?_))
            rw [e, nI_1]
            exact kk N4 v _ _ hF4 (by omega)
          | succ c ihc =>
            intro r N4 v u8 hr hF4 hv
            have hF5 : agr (fr [84, 85, 87]) (sI N 67 39 (nI n)) N4 := agr_t hF3 (fr_s (by decide) hF4)
            have ob : -12 ≤ offK a n k ∧ offK a n k ≤ 12 := by
              unfold offK
              cases Nat.beq a 2 <;> simp only [cond_true, cond_false] <;> (try omega)
              cases (Nat.beq a 0 && Nat.blt k n) <;> simp only [cond_true, cond_false] <;> omega
            have em : mxI (fun r => bif B.testBit r then ptK b S a set n k (m * 16 + l) r + wtK b S a B set n (k + 1) (nxK b S k (m * 16 + l) r) else -1000) (r + 1) = max (mxI (fun r => bif B.testBit r then ptK b S a set n k (m * 16 + l) r + wtK b S a B set n (k + 1) (nxK b S k (m * 16 + l) r) else -1000) r) (bif B.testBit r then ptK b S a set n k (m * 16 + l) r + wtK b S a B set n (k + 1) (nxK b S k (m * 16 + l) r) else -1000) := rfl
            refine v232_67 (brK_f (by rw [show (10 : Int32) = nI 10 from rfl, nI_leI (by decide) (by omega)]; omega) ⟨fun z => ?_, fun z => ?_⟩)
            · have z := (bt_01 hB (by omega)).mp z
              rw [z] at em
              have em : mxI (fun r => bif B.testBit r then ptK b S a set n k (m * 16 + l) r + wtK b S a B set n (k + 1) (nxK b S k (m * 16 + l) r) else -1000) (r + 1) = max (mxI (fun r => bif B.testBit r then ptK b S a set n k (m * 16 + l) r + wtK b S a B set n (k + 1) (nxK b S k (m * 16 + l) r) else -1000) r) (-1000) := em
              rw [nI_1]
              refine ihc (r + 1) N4 v _ (by omega) hF4 ?_
              rw [em, hv]
              omega
            · have z : B.testBit r = true := by
                cases hz : B.testBit r with
                | true => rfl
                | false => exact absurd ((bt_01 hB (by omega)).mpr hz) z
              rw [z] at em
              have em : mxI (fun r => bif B.testBit r then ptK b S a set n k (m * 16 + l) r + wtK b S a B set n (k + 1) (nxK b S k (m * 16 + l) r) else -1000) (r + 1) = max (mxI (fun r => bif B.testBit r then ptK b S a set n k (m * 16 + l) r + wtK b S a B set n (k + 1) (nxK b S k (m * 16 + l) r) else -1000) r) (ptK b S a set n k (m * 16 + l) r + wtK b S a B set n (k + 1) (nxK b S k (m * 16 + l) r)) := em
              have hlt4 : LtK b S a B set n (k + 1) N4 := fun s' hs' => by rw [agr_nI hF4 rfl]; exact hlt3 s' hs'
              refine c233 (b := b) (S := S) (a := a) (B := B) (set := set) (so := so) (n := n) (by omega) hI (agr_t hA (frk_pC (fk hF5))) ha hB2 hn (by omega) hm hl (by omega) (QrK_a (l := [84, 85, 87]) rfl hF5 hQ0) hso hlt4 (fun N5 w hN5 hw => ⟨rfl, ?_⟩)
              rw [nI_1]
              refine ⟨fun y => ihc (r + 1) N5 v _ (by omega) (agr_t hF4 hN5) ?_, fun y => ihc (r + 1) N5 w _ (by omega) (agr_t hF4 hN5) ?_⟩
              · rw [i_le, hw, hv] at y
                rw [em, hv]
                omega
              · rw [i_le, hw, hv] at y
                rw [em, hw]
                omega
        refine lp 10 0 N3 (-1) _ (by omega) (agr_r N3) ?_
        show (-1 : Int) = max (-1) ((-1000) + offK a n k)
        have : offK a n k ≤ 12 := by
          unfold offK
          cases Nat.beq a 2 <;> simp only [cond_true, cond_false] <;> (try omega)
          cases (Nat.beq a 0 && Nat.blt k n) <;> simp only [cond_true, cond_false] <;> omega
        omega
      have lasts : ∀ m, m < 16 → (∀ (N3 : M2) (u5 u6 u7 u8 : Value), agr (fr [84, 85, 87]) (sI N 67 39 (nI n)) N3 → (∀ j, k + 1 ≤ j → j ≤ n → LtK b S a B set n j N3) → (∀ s, s < (m + 1) * 16 → (gI N3 87 (k * 256 + s)).toInt = wtK b S a B set n k s + offK a n k) → WP (d + 1) 107 232 44 [.ref 67, u1, .int (nI B), .int (nI k), .int (nI (m + 1)), u5, u6, u7, u8] [] 107 (FR b, N3) (rV g)) → ∀ c l (N3 : M2) (u6 u7 u8 : Value), l + c = 16 → agr (fr [84, 85, 87]) (sI N 67 39 (nI n)) N3 → (∀ j, k + 1 ≤ j → j ≤ n → LtK b S a B set n j N3) → (∀ s, s < m * 16 + l → (gI N3 87 (k * 256 + s)).toInt = wtK b S a B set n k s + offK a n k) → WP (d + 1) 107 232 54 [.ref 67, u1, .int (nI B), .int (nI k), .int (nI m), .int (nI l), u6, u7, u8] [] 107 (FR b, N3) (rV g) := by
        intro m hm kk c
        induction c with
        | zero =>
          intro l N3 u6 u7 u8 hl hF3 hlt3 hrow
          have : l = 16 := by omega
          subst this
          refine v232_54 (brK_t (by decide) ?_)
          rw [nI_1]
          exact kk N3 _ _ _ _ hF3 hlt3 (fun s hs => hrow s (by omega))
        | succ c ihc =>
          intro l N3 u6 u7 u8 hl hF3 hlt3 hrow
          refine v232_54 (brK_f (by rw [show (16 : Int32) = nI 16 from rfl, nI_leI (by decide) (by omega)]; omega) ?_)
          refine one m l N3 _ hm (by omega) hF3 (hlt3 (k + 1) (by omega) (by omega)) (fun N4 v u7 u8 hN4 hv => ?_)
          refine ihc (l + 1) _ _ _ _ (by omega) (agr_sI rfl (agr_t hF3 (fr_s (by decide) hN4))) (fun j hj1 hj2 s hs => ?_) (fun s hs => ?_)
          · have hne : j * 256 + s ≠ k * 256 + (m * 16 + l) := by omega
            rw [gI_oj hne, agr_nI hN4 rfl]
            exact hlt3 j hj1 hj2 s hs
          · by_cases e : s = m * 16 + l
            · rw [e, gI_s]; exact hv
            · have hne : k * 256 + s ≠ k * 256 + (m * 16 + l) := by omega
              rw [gI_oj hne, agr_nI hN4 rfl]
              exact hrow s (by omega)
      have moods : ∀ c m (N3 : M2) (u5 u6 u7 u8 : Value), m + c = 16 → agr (fr [84, 85, 87]) (sI N 67 39 (nI n)) N3 → (∀ j, k + 1 ≤ j → j ≤ n → LtK b S a B set n j N3) → (∀ s, s < m * 16 → (gI N3 87 (k * 256 + s)).toInt = wtK b S a B set n k s + offK a n k) → WP (d + 1) 107 232 44 [.ref 67, u1, .int (nI B), .int (nI k), .int (nI m), u5, u6, u7, u8] [] 107 (FR b, N3) (rV g) := by
        intro c
        induction c with
        | zero =>
          intro m N3 u5 u6 u7 u8 hm hF3 hlt3 hrow
          have : m = 16 := by omega
          subst this
          refine v232_44 (brK_t (by decide) ?_)
          rw [show (nI k + (-1) : Int32) = nI k - 1 from (Int32.sub_eq_add_neg ..).symm]
          refine ih N3 _ _ _ _ _ _ (by omega) hF3 (fun j h1 h2 => ?_)
          by_cases e : j = k
          · subst e; exact fun s hs => hrow s (by omega)
          · exact hlt3 j (by omega) h2
        | succ c ihc =>
          intro m N3 u5 u6 u7 u8 hm hF3 hlt3 hrow
          refine v232_44 (brK_f (by rw [show (16 : Int32) = nI 16 from rfl, nI_leI (by decide) (by omega)]; omega) ?_)
          exact lasts m (by omega) (fun N4 u5 u6 u7 u8 h1 h2 h3 => ihc (m + 1) N4 _ _ _ _ (by omega) h1 h2 h3) 16 0 N3 _ _ _ (by omega) hF3 hlt3 (fun s hs => hrow s (by omega))
      refine v232_37 (brK_f (by rw [nI_pred]; exact nI_pos (by omega)) ?_)
      rw [nI_pred]
      exact moods 16 0 N2 _ _ _ _ (by omega) hF (fun j h1 h2 => hlt j h1 h2) (fun s hs => absurd hs (by omega))
  have zeros : ∀ c s (N2 : M2) (u4 u5 u6 u7 u8 : Value), s + c = 256 → agr (fr [84, 85, 87]) (sI N 67 39 (nI n)) N2 → (∀ s', s' < s → gI N2 87 (n * 256 + s') = 0) → WP (d + 1) 107 232 7 [.ref 67, .int (nI n), .int (nI B), .int (nI s), u4, u5, u6, u7, u8] [] 107 (FR b, N2) (rV g) := by
    intro c
    induction c with
    | zero =>
      intro s N2 u4 u5 u6 u7 u8 hs hF hz
      have : s = 256 := by omega
      subst this
      refine v232_7 (brK_t (by decide) ?_)
      refine hours n N2 _ _ _ _ _ _ (Nat.le_refl _) hF (fun j h1 h2 s' hs' => ?_)
      have : j = n := by omega
      subst this
      rw [hz s' hs', wt_n]
      have : offK a j j = 0 := by
        unfold offK
        rw [blt_f.mpr (by omega), Bool.and_false]
        cases Nat.beq a 2 <;> simp only [cond_true, cond_false] <;> omega
      rw [this]
      rfl
    | succ c ihc =>
      intro s N2 u4 u5 u6 u7 u8 hs hF hz
      have e1 : ix (256 * nI n + nI s) = n * 256 + s := by
        have e1 : (256 * nI n : Int32) = nI (256 * n) := nI_mul 256 n
        rw [e1, nI_add, ix_n (by omega)]
        omega
      refine v232_7 (brK_f (by rw [show (256 : Int32) = nI 256 from rfl, nI_leI (by decide) (by omega)]; omega) (iK_i (by rw [e1]; omega) ?_))
      rw [e1, nI_1]
      refine ihc (s + 1) _ _ _ _ _ _ (by omega) (agr_sI rfl hF) (fun s' hs' => ?_)
      by_cases e : s' = s
      · subst e; exact gI_s ..
      · rw [gI_oj (by omega)]; exact hz s' (by omega)
  exact v232_0 (zeros 256 0 _ _ _ _ _ _ (by omega) (agr_r _) (fun s' h => absurd h (by omega)))
theorem c238 {f : Int32 → Mm → Prop} {w : Int32} {N : M2} (hd : 7 ≤ d) (hI : INV b S) (hA : agr (pC b) S N) (ha : a ≤ 2) (hB : B < 1024) (hB2 : ∃ r, r < 10 ∧ B.testBit r = true) (hn : n ≤ 12) (hw : ix w < n) (hQ : QrK a n so N) (hso : soR a set so) (hlt : ∀ k, k ≤ n → LtK b S a B set n k N) (q : ∀ N', agr (fr [84, 85]) N N' → f (nI (rkK b S a B set n (st0 S) (ix w))) (FR b, N')) : WP d 107 238 0 [.ref 67, .int w, .int (nI B), U, U, U, U, U] [] 107 (FR b, N) (rI f) := by
  obtain ⟨d, rfl⟩ := ex1 (e := 6) hd
  have hL : LawR b S := hI.2.2.2.2.2.2.2.2.2
  have e6 : gI S 68 6 = tmV S := hI.2.1.2 6 (by decide)
  have hs0 := st0_lt hI.2.1.1
  have pc : ∀ {N' : M2}, agr (fr [84, 85]) N N' → agr (pC b) S N' := fun h => agr_t hA (frk_pC (frk_s (by decide) h))
  have l : ∀ c k (N2 : M2) (u6 u7 : Value), k + c = ix w → agr (fr [84, 85]) N N2 → WP (d + 1) 107 238 18 [.ref 67, .int w, .int (nI B), .int (nI (paK b S a B set n (st0 S) k / 16)), .int (nI (paK b S a B set n (st0 S) k % 16)), .int (nI k), u6, u7] [] 107 (FR b, N2) (rI f) := by
    intro c
    induction c with
    | zero =>
      intro k N2 u6 u7 hk hF
      have hkw : k = ix w := by omega
      obtain ⟨hrc, hs⟩ := pa_rc (b := b) (a := a) (set := set) hB2 hn hs0 k (by omega)
      have fo := fp_ok (b := b) (S := S) (a := a) (set := set) (s := paK b S a B set n (st0 S) k) hB2 hn (show k < n by omega) 9 0 rfl (fun r' h => absurd h (by omega))
      have erk : rkK b S a B set n (st0 S) k = fpK b S a B set n k (paK b S a B set n (st0 S) k) 9 0 := rfl
      rw [← hkw] at q
      have ewk : w = nI k := by rw [hkw, n_ix]
      generalize paK b S a B set n (st0 S) k = s at *
      have es : s / 16 * 16 + s % 16 = s := by omega
      have inner : ∀ m' r (N4 : M2) (u7 : Value), r + m' = 9 → agr (fr [84, 85]) N2 N4 → fpK b S a B set n k s m' r = fpK b S a B set n k s 9 0 → WP (d + 1) 107 238 27 [.ref 67, .int w, .int (nI B), .int (nI (s / 16)), .int (nI (s % 16)), .int (nI k), .int (nI r), u7] [] 107 (FR b, N4) (rI f) := by
        intro m'
        induction m' with
        | zero =>
          intro r N4 u7 hr hF4 he
          have he : r = fpK b S a B set n k s 9 0 := he
          have hF5 := agr_t hF hF4
          rw [← he] at fo erk
          refine v238_27 (brK_f (fun z => by rw [(bt_01 hB (by omega)).mp z] at fo; exact absurd fo.2.1 (by decide)) (c233 (b := b) (S := S) (a := a) (B := B) (set := set) (so := so) (n := n) (by omega) hI (pc hF5) ha hB2 hn (by omega) (by omega) (by omega) (by omega) (QrK_a (l := [84, 85]) rfl hF5 hQ) hso (fun s' hs' => by rw [agr_nI hF5 rfl]; exact hlt (k + 1) (by omega) s' hs') (fun N5 v hN5 hv => ⟨rfl, c237 (by omega) (by omega) (by omega) (by omega) ⟨rfl, brK_t ?_ ?_⟩⟩)))
          · rw [es] at hv ⊢
            rw [i_eq, hv, fo.2.2, agr_nI hN5 rfl, agr_nI hF5 rfl, hlt k (by omega) s hs]
          · have := q N5 (agr_t hF5 hN5)
            rw [erk] at this
            exact brK_t ewk.symm this
        | succ m' ihr =>
          intro r N4 u7 hr hF4 he
          have hF5 := agr_t hF hF4
          unfold fpK at he
          refine v238_27 ⟨fun z => ?_, fun z => c233 (b := b) (S := S) (a := a) (B := B) (set := set) (so := so) (n := n) (by omega) hI (pc hF5) ha hB2 hn (by omega) (by omega) (by omega) (by omega) (QrK_a (l := [84, 85]) rfl hF5 hQ) hso (fun s' hs' => by rw [agr_nI hF5 rfl]; exact hlt (k + 1) (by omega) s' hs') (fun N5 v hN5 hv => ⟨rfl, c237 (by omega) (by omega) (by omega) (by omega) ⟨rfl, ⟨fun y => ?_, fun y => ?_⟩⟩⟩)⟩
          · have z := (bt_01 hB (by omega)).mp z
            rw [z] at he
            rw [nI_1]
            exact ihr (r + 1) N4 _ (by omega) hF4 he
          · have z : B.testBit r = true := by
              cases hz : B.testBit r with
              | true => rfl
              | false => exact absurd ((bt_01 hB (by omega)).mpr hz) z
            rw [es] at hv y
            rw [i_eq, hv, agr_nI hN5 rfl, agr_nI hF5 rfl, hlt k (by omega) s hs] at y
            rw [z, decide_eq_true (show ptK b S a set n k s r + wtK b S a B set n (k + 1) (nxK b S k s r) = wtK b S a B set n k s by omega)] at he
            have he : r = fpK b S a B set n k s 9 0 := he
            have := q N5 (agr_t hF5 hN5)
            rw [erk, ← he] at this
            exact brK_t ewk.symm this
          · have z : B.testBit r = true := by
              cases hz : B.testBit r with
              | true => rfl
              | false => exact absurd ((bt_01 hB (by omega)).mpr hz) z
            rw [es] at hv y
            have y : ¬ v.toInt = wtK b S a B set n k s + offK a n k := fun e => y (i_eq.mpr (by rw [e, agr_nI hN5 rfl, agr_nI hF5 rfl, hlt k (by omega) s hs]))
            rw [hv] at y
            rw [z, decide_eq_false (show ¬ ptK b S a set n k s r + wtK b S a B set n (k + 1) (nxK b S k s r) = wtK b S a B set n k s by omega)] at he
            rw [nI_1]
            exact ihr (r + 1) N5 _ (by omega) (agr_t hF4 hN5) he
      refine v238_18 (brK_f (fun z => by rw [i_lt, ewk] at z; omega) ?_)
      exact inner 9 0 N2 _ (by omega) (agr_r N2) rfl
    | succ c ih =>
      intro k N2 u6 u7 hk hF
      have wk : nI (ix w) = w := n_ix w
      obtain ⟨hrc, hs⟩ := pa_rc (b := b) (a := a) (set := set) hB2 hn hs0 k (by omega)
      have fo := fp_ok (b := b) (S := S) (a := a) (set := set) (s := paK b S a B set n (st0 S) k) hB2 hn (show k < n by omega) 9 0 rfl (fun r' h => absurd h (by omega))
      have ih := fun N2 u6 u7 => ih (k + 1) N2 u6 u7 (by omega)
      have epa : paK b S a B set n (st0 S) (k + 1) = nxK b S k (paK b S a B set n (st0 S) k) (fpK b S a B set n k (paK b S a B set n (st0 S) k) 9 0) := rfl
      rw [epa] at ih
      generalize paK b S a B set n (st0 S) k = s at *
      have es : s / 16 * 16 + s % 16 = s := by omega
      have go : ∀ (N5 : M2) r, agr (fr [84, 85]) N N5 → r = fpK b S a B set n k s 9 0 → brK (nI k = w) (f (nI r) (FR b, N5)) (WP d 107 234 0 [.ref 67, .int (nI k), U] [] 107 (FR b, N5) (rI (fun v6 N5 => N5.1 = FR b ∧ (WP d 107 235 0 [.ref 67, .int (nI k)] [] 107 (FR b, N5.2) (rI (fun v8 N7 => N7.1 = FR b ∧ (WP d 107 215 0 [.ref 67, .int (nI (s / 16)), .int v6, .int (nI (s % 16)), .int v8, .int (nI r)] [] 107 (FR b, N7.2) (rI (fun v10 N9 => N9.1 = FR b ∧ (WP (d + 1) 107 238 18 [.ref 67, .int w, .int (nI B), .int (((nI (s / 16) + v10) + nI r) - ((nI (s / 16) + v10) + nI r) / 16 * 16), .int v10, .int (nI k + 1), .int (nI r), .int v10] [] 107 (FR b, N9.2) (rI f))))))))))) := by
        intro N5 r hF5 he
        rw [← he] at fo ih
        refine brK_f (fun e => by have := (ix_eq (n := k) (by omega)).mp e.symm; omega) (c234 (S := S) (by omega) hI (pc hF5) (by omega) ⟨rfl, c235 (S := S) (by omega) hI (pc hF5) (by omega) ⟨rfl, c215 (S := S) (by omega) hL (pc hF5) (fun N6 hN6 => ⟨rfl, ?_⟩)⟩⟩)
        have hsk := @sK_lt b S k s r
        have esK : sayV b S (nI (s / 16), hgK S k, nI (s % 16), hrK S k) (tmV S) (nI r) = nI (sK b S k s r) := (n_ix _).symm
        rw [e6, esK]
        have eM : (nI (s / 16) + nI (sK b S k s r) + nI r - (nI (s / 16) + nI (sK b S k s r) + nI r) / 16 * 16 : Int32) = nI ((s / 16 + sK b S k s r + r) % 16) := by
          rw [nI_add, nI_add]
          exact nI_md (b := 16) (by omega) (by decide)
        rw [eM, nI_1]
        have e1 : nxK b S k s r / 16 = (s / 16 + sK b S k s r + r) % 16 := by unfold nxK; omega
        have e2 : nxK b S k s r % 16 = sK b S k s r := by unfold nxK; omega
        have := ih N6 (.int (nI r)) (.int (nI (sK b S k s r))) (agr_t hF5 hN6)
        rw [e1, e2] at this
        exact this
      have inner : ∀ m' r (N4 : M2) (u7 : Value), r + m' = 9 → agr (fr [84, 85]) N2 N4 → fpK b S a B set n k s m' r = fpK b S a B set n k s 9 0 → WP (d + 1) 107 238 27 [.ref 67, .int w, .int (nI B), .int (nI (s / 16)), .int (nI (s % 16)), .int (nI k), .int (nI r), u7] [] 107 (FR b, N4) (rI f) := by
        intro m'
        induction m' with
        | zero =>
          intro r N4 u7 hr hF4 he
          have he : r = fpK b S a B set n k s 9 0 := he
          have hF5 := agr_t hF hF4
          have fo2 := fo
          rw [← he] at fo2
          refine v238_27 (brK_f (fun z => by rw [(bt_01 hB (by omega)).mp z] at fo2; exact absurd fo2.2.1 (by decide)) (c233 (b := b) (S := S) (a := a) (B := B) (set := set) (so := so) (n := n) (by omega) hI (pc hF5) ha hB2 hn (by omega) (by omega) (by omega) (by omega) (QrK_a (l := [84, 85]) rfl hF5 hQ) hso (fun s' hs' => by rw [agr_nI hF5 rfl]; exact hlt (k + 1) (by omega) s' hs') (fun N5 v hN5 hv => ⟨rfl, c237 (by omega) (by omega) (by omega) (by omega) ⟨rfl, brK_t ?_ (go N5 r (agr_t hF5 hN5) he)⟩⟩)))
          rw [es] at hv ⊢
          rw [i_eq, hv, fo2.2.2, agr_nI hN5 rfl, agr_nI hF5 rfl, hlt k (by omega) s hs]
        | succ m' ihr =>
          intro r N4 u7 hr hF4 he
          have hF5 := agr_t hF hF4
          unfold fpK at he
          refine v238_27 ⟨fun z => ?_, fun z => c233 (b := b) (S := S) (a := a) (B := B) (set := set) (so := so) (n := n) (by omega) hI (pc hF5) ha hB2 hn (by omega) (by omega) (by omega) (by omega) (QrK_a (l := [84, 85]) rfl hF5 hQ) hso (fun s' hs' => by rw [agr_nI hF5 rfl]; exact hlt (k + 1) (by omega) s' hs') (fun N5 v hN5 hv => ⟨rfl, c237 (by omega) (by omega) (by omega) (by omega) ⟨rfl, ⟨fun y => ?_, fun y => ?_⟩⟩⟩)⟩
          · have z := (bt_01 hB (by omega)).mp z
            rw [z] at he
            rw [nI_1]
            exact ihr (r + 1) N4 _ (by omega) hF4 he
          · have z : B.testBit r = true := by
              cases hz : B.testBit r with
              | true => rfl
              | false => exact absurd ((bt_01 hB (by omega)).mpr hz) z
            rw [es] at hv y
            rw [i_eq, hv, agr_nI hN5 rfl, agr_nI hF5 rfl, hlt k (by omega) s hs] at y
            rw [z, decide_eq_true (show ptK b S a set n k s r + wtK b S a B set n (k + 1) (nxK b S k s r) = wtK b S a B set n k s by omega)] at he
            exact go N5 r (agr_t hF5 hN5) he
          · have z : B.testBit r = true := by
              cases hz : B.testBit r with
              | true => rfl
              | false => exact absurd ((bt_01 hB (by omega)).mpr hz) z
            rw [es] at hv y
            have y : ¬ v.toInt = wtK b S a B set n k s + offK a n k := fun e => y (i_eq.mpr (by rw [e, agr_nI hN5 rfl, agr_nI hF5 rfl, hlt k (by omega) s hs]))
            rw [hv] at y
            rw [z, decide_eq_false (show ¬ ptK b S a set n k s r + wtK b S a B set n (k + 1) (nxK b S k s r) = wtK b S a B set n k s by omega)] at he
            rw [nI_1]
            exact ihr (r + 1) N5 _ (by omega) (agr_t hF4 hN5) he
      refine v238_18 (brK_f (fun z => ?_) ?_)
      · rw [← wk, nI_ltI (by omega) (by omega)] at z
        omega
      · exact inner 9 0 N2 _ (by omega) (agr_r N2) rfl
  have h1 : ix (gI S 5 0) < 16 := hI.2.1.1 0 (by decide)
  have h2 : ix (gI S 5 2) < 16 := hI.2.1.1 2 (by decide)
  refine v238_0 ?_
  rw [e68 hI hA (by decide), e68 hI hA (by decide)]
  have := l (ix w) 0 N U U (by omega) (agr_r N)
  have e1 : paK b S a B set n (st0 S) 0 / 16 = ix (gI S 5 0) := by show st0 S / 16 = _; unfold st0; omega
  have e2 : paK b S a B set n (st0 S) 0 % 16 = ix (gI S 5 2) := by show st0 S % 16 = _; unfold st0; omega
  rw [e1, e2, n_ix, n_ix] at this
  exact this
end REFPLAN2
