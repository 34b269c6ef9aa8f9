theorem imx_t {x y : Int32} : (imx x y).toInt = max x.toInt y.toInt := by
  unfold imx
  by_cases h : x < y
  · rw [if_pos h]
    rw [i_lt] at h
    omega
  · rw [if_neg h]
    rw [i_lt] at h
    omega
theorem m1000 : ((-1000 : Int32)).toInt = -1000 := rfl
theorem fp_ok {b : Bool} {S : M2} {a B n : Nat} {set : Int32} {k s : Nat} (hB : ∃ r, r < 10 ∧ B.testBit r = true) (hn : n ≤ 12) (hk : k < n) : ∀ m r, r + m = 9 → (∀ r', r' < r → (B.testBit r' && decide (ptK b S a set n k s r' + wtK b S a B set n (k + 1) (nxK b S k s r') = wtK b S a B set n k s)) = false) → fpK b S a B set n k s m r < 10 ∧ B.testBit (fpK b S a B set n k s m r) = true ∧ ptK b S a set n k s (fpK b S a B set n k s m r) + wtK b S a B set n (k + 1) (nxK b S k s (fpK b S a B set n k s m r)) = wtK b S a B set n k s
  | 0, r, h, ho => by
    have : r = 9 := by omega
    subst this
    obtain ⟨r0, h1, h2, h3⟩ := wt_at (b := b) (S := S) (a := a) (set := set) hB hn hk s
    by_cases e : r0 = 9
    · subst e; exact ⟨h1, h2, h3⟩
    · have := ho r0 (by omega)
      rw [h2, decide_eq_true h3] at this
      exact absurd this (by decide)
  | m + 1, r, h, ho => by
    unfold fpK
    cases hq : (B.testBit r && decide (ptK b S a set n k s r + wtK b S a B set n (k + 1) (nxK b S k s r) = wtK b S a B set n k s)) with
    | true =>
      rw [Bool.and_eq_true] at hq
      exact ⟨by show r < 10; omega, hq.1, of_decide_eq_true hq.2⟩
    | false =>
      exact fp_ok hB hn hk m (r + 1) (by omega) (fun r' hr' => by
        by_cases e : r' = r
        · subst e; exact hq
        · exact ho r' (by omega))
theorem pa_rc {b : Bool} {S : M2} {a B n : Nat} {set : Int32} (hB : ∃ r, r < 10 ∧ B.testBit r = true) (hn : n ≤ 12) (hs0 : st0 S < 256) : ∀ k, k ≤ n → rcP b S B (st0 S) k (paK b S a B set n (st0 S) k) ∧ paK b S a B set n (st0 S) k < 256
  | 0, _ => ⟨rfl, hs0⟩
  | k + 1, h => by
    have ih := pa_rc (b := b) (a := a) (set := set) hB hn hs0 k (by omega)
    have fo := fp_ok (b := b) (S := S) (a := a) (set := set) (s := paK b S a B set n (st0 S) k) hB hn (show k < n by omega) 9 0 rfl (fun r' h => absurd h (by omega))
    exact ⟨⟨_, ih.2, ih.1, _, fo.1, fo.2.1, rfl⟩, nxK_lt⟩
section PLANNER3
variable {d : Nat} {b : Bool} {S : M2} {a B n : Nat} {set : Int32}
theorem c93 {g : Mm → Prop} {N : M2} (hd : 5 ≤ d) (hA : agr (pC b) S N) (ha : a ≤ 2) (hB : B < 1024) (hB2 : ∃ r, r < 10 ∧ B.testBit r = true) (hn : n ≤ 12) (hP : PrK a B set n N) (hrw : ∀ k, k ≤ n → RwK b S B k N) (hsd : ∀ k, k < n → SdK b S B k N) (q : ∀ N', agr (fr [44, 47]) N N' → (∀ k, k ≤ n → WtK b S a B set n k N') → g (FR b, N')) : WP d 107 93 0 [.ref 43, .ref 5, U, U, U, U, U] [] 107 (FR b, N) (rV g) := by
  obtain ⟨d, rfl⟩ := ex1 (e := 4) hd
  have pc : ∀ {N' : M2}, agr (fr [44, 47]) N N' → agr (pC b) S N' := fun h => agr_t hA (frp_pC (fr_s (by decide) h))
  have l : ∀ k (N2 : M2) (u3 u4 u5 u6 : Value), k ≤ n → agr (fr [44, 47]) N N2 → (∀ j, j < k → RwK b S B j N2) → (∀ j, k ≤ j → j ≤ n → WtK b S a B set n j N2) → WP (d + 1) 107 93 7 [.ref 43, .ref 5, .int (nI k - 1), u3, u4, u5, u6] [] 107 (FR b, N2) (rV g) := by
    intro k
    induction k with
    | zero =>
      intro N2 u3 u4 u5 u6 hk hF h1 h2
      exact v93_7 (brK_t (by decide) (q N2 hF (fun j hj => h2 j (by omega) hj)))
    | succ k ih =>
      intro N2 u3 u4 u5 u6 hk hF h1 h2
      have rows : ∀ m s (N3 : M2) (u4 u5 u6 : Value), s + m = 256 → agr (fr [44, 47]) N2 N3 → HgK S N3 k → (∀ j, (j < k * 256 ∨ k * 256 + s ≤ j) → gI N3 47 j = gI N2 47 j) → (∀ s', s' < s → (rcP b S B (st0 S) k s' → (gI N3 47 (k * 256 + s')).toInt = wtK b S a B set n k s') ∧ (¬ rcP b S B (st0 S) k s' → gI N3 47 (k * 256 + s') = -1000)) → WP (d + 1) 107 93 19 [.ref 43, .ref 5, .int (nI k), .int (nI s), u4, u5, u6] [] 107 (FR b, N3) (rV g) := by
        intro m
        induction m with
        | zero =>
          intro s N3 u4 u5 u6 hs hF3 hh ho hrow
          have : s = 256 := by omega
          subst this
          refine v93_19 (brK_t (by decide) ?_)
          rw [show (nI k + (-1) : Int32) = nI k - 1 from (Int32.sub_eq_add_neg ..).symm]
          refine ih N3 _ _ _ _ (by omega) (agr_t hF hF3) (fun j hj s hs => ?_) (fun j hj1 hj2 s hs => ?_)
          · rw [ho _ (Or.inl (by omega))]
            exact h1 j (by omega) s hs
          · by_cases e : j = k
            · subst e; exact hrow s hs
            · rw [ho _ (Or.inr (by omega))]
              exact h2 j (by omega) hj2 s hs
        | succ m ihm =>
          intro s N3 u4 u5 u6 hs hF3 hh ho hrow
          refine v93_19 (brK_f (by rw [show (256 : Int32) = nI 256 from rfl, nI_leI (by decide) (by omega)]; omega) ?_)
          rw [k256 (by omega) (by omega), nI_1]
          refine c89 (by omega) (by omega) ⟨rfl, ?_⟩
          have e47 := ho (k * 256 + s) (Or.inr (by omega))
          have hks := h1 k (by omega) s (by omega)
          rw [e47]
          by_cases hrc : rcP b S B (st0 S) k s
          · rw [hks.1 hrc]
            refine brK_f n1000 ?_
            have mx : ∀ m' r (N4 : M2) (v : Int32), r + m' = 10 → agr (fr [44]) N3 N4 → HgK S N4 k → v.toInt = mxI (fun r => bif B.testBit r then ptK b S a set n k s r + wtK b S a B set n (k + 1) (nxK b S k s r) else -1000) r → WP (d + 1) 107 93 58 [.ref 43, .ref 5, .int (nI k), .int (nI s), .int (nI (k * 256 + s)), .int v, .int (nI r)] [] 107 (FR b, N4) (rV g) := by
              intro m'
              induction m' with
              | zero =>
                intro r N4 v hr hF4 hh4 hv
                have : r = 10 := by omega
                subst this
                refine v93_58 (brK_t (by decide) (c87 (by omega) (by omega) ⟨rfl, ?_⟩))
                rw [nI_1]
                refine ihm (s + 1) _ _ _ _ (by omega) (agr_sI rfl (agr_t hF3 (fr_s (by decide) hF4))) (HgK_a (l := [47]) rfl (agr_sI rfl (agr_r N4)) hh4) (fun j hj => ?_) (fun s' hs' => ?_)
                · rw [gI_oj (by omega), agr_nI hF4 rfl]
                  exact ho j (by omega)
                · by_cases e : s' = s
                  · subst e
                    refine ⟨fun _ => ?_, fun h => absurd hrc h⟩
                    rw [gI_s, hv, wt_s (by omega)]
                  · rw [gI_oj (by omega), agr_nI hF4 rfl]
                    exact hrow s' (by omega)
              | succ m' ihr =>
                intro r N4 v hr hF4 hh4 hv
                have hF5 : agr (fr [44, 47]) N N4 := agr_t hF (agr_t hF3 (fr_s (by decide) hF4))
                have hP4 := PrK_a (l := [44, 47]) rfl hF5 hP
                have hsd4 : SdK b S B k N4 := fun s hs hr r h1 h2 => by rw [agr_nL hF5 rfl]; exact hsd k (by omega) s hs hr r h1 h2
                have hwt4 : WtK b S a B set n (k + 1) N4 := fun s' hs' => by
                  rw [agr_nI hF4 rfl, ho _ (Or.inr (by omega))]
                  exact h2 (k + 1) (by omega) (by omega) s' hs'
                refine v93_58 (brK_f (by rw [show (10 : Int32) = nI 10 from rfl, nI_leI (by decide) (by omega)]; omega) (c95 (b := b) (S := S) (a := a) (B := B) (set := set) (n := n) (by omega) ha hB hB2 hn (by omega) (by omega) (by omega) hP4 hh4 hrc hsd4 hwt4 (fun N5 w hN5 hh5 hw => ⟨rfl, ?_⟩)))
                rw [nI_1]
                refine ihr (r + 1) N5 _ (by omega) (agr_t hF4 hN5) hh5 ?_
                rw [imx_t, hv]
                show max _ w.toInt = max _ (bif B.testBit r then ptK b S a set n k s r + wtK b S a B set n (k + 1) (nxK b S k s r) else -1000)
                rcases hw with ⟨hb, hw⟩ | ⟨hb, hw⟩
                · rw [hw, hb]; rfl
                · rw [hw, hb]; rfl
            exact mx 10 0 N3 (-1000) (by omega) (agr_r N3) hh rfl
          · rw [hks.2 hrc]
            refine brK_t rfl ?_
            refine ihm (s + 1) N3 _ _ _ (by omega) hF3 hh (fun j hj => ho j (by omega)) (fun s' hs' => ?_)
            by_cases e : s' = s
            · subst e
              refine ⟨fun h => absurd h hrc, fun _ => ?_⟩
              rw [e47]
              exact hks.2 hrc
            · exact hrow s' (by omega)
      refine v93_7 (brK_f (by rw [nI_pred]; exact nI_pos (by omega)) ?_)
      rw [nI_pred]
      refine c94 (S := S) (by omega) (pc hF) (by omega) (fun N3 hN3 hh3 => ⟨rfl, ?_⟩)
      exact rows 256 0 N3 _ _ _ (by omega) (fr_s (by decide) hN3) hh3 (fun j hj => agr_nI hN3 rfl) (fun s' h => absurd h (by omega))
  refine v93_0 ?_
  rw [hP.2.2.2]
  refine l n N _ _ _ _ (Nat.le_refl _) (agr_r N) (fun j hj => hrw j (by omega)) (fun j h1 h2 s hs => ?_)
  have : j = n := by omega
  subst this
  have := hrw j (Nat.le_refl _) s hs
  exact ⟨fun h => by rw [this.1 h, wt_n]; rfl, this.2⟩
theorem c99 {g : Mm → Prop} {N : M2} (hd : 5 ≤ d) (hI : INV b S) (hA : agr (pC b) S N) (ha : a ≤ 2) (hB : B < 1024) (hB2 : ∃ r, r < 10 ∧ B.testBit r = true) (hn : n ≤ 12) (hP : PrK a B set n N) (hsd : ∀ k, k < n → SdK b S B k N) (hwt : ∀ k, k ≤ n → WtK b S a B set n k N) (q : ∀ N', agr (fr [44, 45]) N N' → (∀ k, k < n → gI N' 45 k = nI (rkK b S a B set n (st0 S) k)) → g (FR b, N')) : WP d 107 99 0 [.ref 43, .ref 5, .int (nI (st0 S)), U, U, U] [] 107 (FR b, N) (rV g) := by
  obtain ⟨d, rfl⟩ := ex1 (e := 4) hd
  have hs0 := st0_lt hI.2.1.1
  have pc : ∀ {N' : M2}, agr (fr [44, 45]) N N' → agr (pC b) S N' := fun h => agr_t hA (frp_pC (fr_s (by decide) h))
  have l : ∀ m k (N2 : M2) (u2 u5 : Value), k + m = n → agr (fr [44, 45]) N N2 → (∀ j, j < k → gI N2 45 j = nI (rkK b S a B set n (st0 S) j)) → WP (d + 1) 107 99 5 [.ref 43, .ref 5, u2, .int (nI (paK b S a B set n (st0 S) k)), .int (nI k), u5] [] 107 (FR b, N2) (rV g) := by
    intro m
    induction m with
    | zero =>
      intro k N2 u2 u5 hk hF hch
      have : k = n := by omega
      subst this
      have hP2 := PrK_a (l := [44, 45]) rfl hF hP
      exact v99_5 (brK_t (by rw [hP2.2.2.2, i_le]; exact Int.le_refl _) (q N2 hF hch))
    | succ m ih =>
      intro k N2 u2 u5 hk hF hch
      have hP2 := PrK_a (l := [44, 45]) rfl hF hP
      obtain ⟨hrc, hs⟩ := pa_rc (b := b) (a := a) (set := set) hB2 hn hs0 k (by omega)
      have fo := fp_ok (b := b) (S := S) (a := a) (set := set) (s := paK b S a B set n (st0 S) k) hB2 hn (show k < n by omega) 9 0 rfl (fun r' h => absurd h (by omega))
      have epa : paK b S a B set n (st0 S) (k + 1) = nxK b S k (paK b S a B set n (st0 S) k) (fpK b S a B set n k (paK b S a B set n (st0 S) k) 9 0) := rfl
      have erk : rkK b S a B set n (st0 S) k = fpK b S a B set n k (paK b S a B set n (st0 S) k) 9 0 := rfl
      refine v99_5 (brK_f (by rw [hP2.2.2.2, nI_leI (by omega) (by omega)]; omega) (brK_f (by rw [show (12 : Int32) = nI 12 from rfl, nI_leI (by decide) (by omega)]; omega) (c94 (S := S) (by omega) (pc hF) (by omega) (fun N3 hN3 hh3 => ⟨rfl, ?_⟩))))
      have hF3 : agr (fr [44, 45]) N N3 := agr_t hF (fr_s (by decide) hN3)
      generalize paK b S a B set n (st0 S) k = s at *
      have at71 : ∀ (N4 : M2) r, agr (fr [44, 45]) N2 N4 → (∀ j, gI N4 45 j = gI N2 45 j) → r = fpK b S a B set n k s 9 0 → WP (d + 1) 107 99 71 [.ref 43, .ref 5, u2, .int (nI s), .int (nI k), .int (nI r)] [] 107 (FR b, N4) (rV g) := by
        intro N4 r hF4 h45 hr
        rw [← hr] at fo epa erk
        have hsk := @sK_lt b S k s r
        have hnib : nbL (gL N4 46 (k * 256 + s)) r = nI (sK b S k s r) := by
          rw [agr_nL (agr_t hF hF4) rfl]
          exact hsd k (by omega) s hs hrc r fo.1 fo.2.1
        refine v99_71 (iK_i (by rw [ix_n (by omega)]; omega) ?_)
        rw [k256 (by omega) (by omega), ix_n (by omega), nI_1]
        refine c96 (by omega) (by omega) ⟨rfl, ?_⟩
        have hnib2 : nbL (gL (sI N4 45 k (nI r)) 46 (k * 256 + s)) r = nI (sK b S k s r) := hnib
        rw [hnib2]
        refine c92 (by omega) (by omega) (by omega) (by omega) ⟨rfl, ?_⟩
        have enx : (s / 16 + sK b S k s r + r) % 16 * 16 + sK b S k s r = nxK b S k s r := rfl
        rw [enx, ← epa]
        refine ih (k + 1) _ _ _ (by omega) (agr_sI rfl (agr_t hF hF4)) (fun j hj => ?_)
        by_cases e : j = k
        · subst e; rw [gI_s, erk]
        · rw [gI_oj e, h45]; exact hch j (by omega)
      have inner : ∀ m' r (N4 : M2), r + m' = 9 → agr (fr [44]) N3 N4 → HgK S N4 k → fpK b S a B set n k s m' r = fpK b S a B set n k s 9 0 → WP (d + 1) 107 99 34 [.ref 43, .ref 5, u2, .int (nI s), .int (nI k), .int (nI r)] [] 107 (FR b, N4) (rV g) := by
        intro m'
        induction m' with
        | zero =>
          intro r N4 hr hF4 hh4 he
          have : r = 9 := by omega
          subst this
          exact v99_34 (brK_t (by decide) (at71 N4 9 (agr_t (fr_s (by decide) hN3) (fr_s (by decide) hF4)) (fun j => (agr_nI hF4 rfl).trans (agr_nI hN3 rfl)) he))
        | succ m' ihr =>
          intro r N4 hr hF4 hh4 he
          have hF5 : agr (fr [44, 45]) N N4 := agr_t hF3 (fr_s (by decide) hF4)
          have hP4 := PrK_a (l := [44, 45]) rfl hF5 hP
          have hsd4 : SdK b S B k N4 := fun s hs hr r h1 h2 => by rw [agr_nL hF5 rfl]; exact hsd k (by omega) s hs hr r h1 h2
          have hwt4 : WtK b S a B set n (k + 1) N4 := fun s' hs' => by rw [agr_nI hF5 rfl]; exact hwt (k + 1) (by omega) s' hs'
          refine v99_34 (brK_f (by rw [show (9 : Int32) = nI 9 from rfl, nI_leI (by decide) (by omega)]; omega) (c95 (b := b) (S := S) (a := a) (B := B) (set := set) (n := n) (by omega) ha hB hB2 hn (by omega) hs (by omega) hP4 hh4 hrc hsd4 hwt4 (fun N5 w hN5 hh5 hw => ⟨rfl, ?_⟩)))
          rw [k256 (by omega) (by omega)]
          refine c89 (by omega) (by omega) ⟨rfl, ?_⟩
          have e47 : (gI N5 47 (k * 256 + s)).toInt = wtK b S a B set n k s := by
            rw [agr_nI hN5 rfl, agr_nI hF5 rfl]
            exact (hwt k (by omega) s hs).1 hrc
          have bd := wt_bd (b := b) (S := S) (a := a) (set := set) hB2 hn k s
          unfold fpK at he
          refine ⟨fun z => ?_, fun z => ?_⟩
          · rw [i_eq, e47] at z
            rcases hw with ⟨hb, hw⟩ | ⟨hb, hw⟩
            · rw [hw] at z
              rw [hb, decide_eq_true z] at he
              exact at71 N5 r (agr_t (fr_s (by decide) hN3) (agr_t (fr_s (by decide) hF4) (fr_s (by decide) hN5))) (fun j => (agr_nI hN5 rfl).trans ((agr_nI hF4 rfl).trans (agr_nI hN3 rfl))) he
            · rw [hw, m1000] at z
              omega
          · have z : ¬ w.toInt = wtK b S a B set n k s := fun e => z (i_eq.mpr (by rw [e, e47]))
            rw [nI_1]
            refine ihr (r + 1) N5 (by omega) (agr_t hF4 hN5) hh5 ?_
            rcases hw with ⟨hb, hw⟩ | ⟨hb, hw⟩
            · rw [hw] at z
              rw [hb, decide_eq_false z] at he
              exact he
            · rw [hb] at he
              exact he
      exact inner 9 0 N3 (by omega) (agr_r N3) hh3 rfl
  exact v99_0 (l n 0 N _ _ (by omega) (agr_r N) (fun j hj => absurd hj (by omega)))
/-- the whole plan -/
def hoP (b : Bool) (S : M2) (a B : Nat) (set : Int32) (n n' : Nat) : Prop := n' ≤ 12 ∧ (a ≠ 0 → n' = n) ∧ (a = 0 → n = 12 → ((n' = 0 ∧ ∀ k, k < 12 → ¬ sayP b S B (st0 S) set k) ∨ (1 ≤ n' ∧ sayP b S B (st0 S) set (n' - 1) ∧ ∀ k, k < n' - 1 → ¬ sayP b S B (st0 S) set k)))
def b1N (x : Nat) : Nat := bif Nat.beq x 0 then 1 else x
theorem b1_ok {x : Nat} (h : x < 1024) : b1N x < 1024 ∧ ∃ r, r < 10 ∧ (b1N x).testBit r = true := by
  unfold b1N
  by_cases e : x = 0
  · subst e; exact ⟨by decide, 0, by decide, by decide⟩
  · rw [show Nat.beq x 0 = false from by
      cases hb : Nat.beq x 0 with
      | false => rfl
      | true => exact absurd (Nat.eq_of_beq_eq_true hb) e]
    refine ⟨h, ?_⟩
    obtain ⟨i, hi⟩ := Nat.exists_testBit_of_ne_zero e
    refine ⟨i, ?_, hi⟩
    by_cases q : i < 10
    · exact q
    · rw [Nat.testBit_lt_two_pow (Nat.lt_of_lt_of_le h (show 1024 ≤ 2 ^ i from Nat.pow_le_pow_right (n := 2) (by decide) (show 10 ≤ i by omega)))] at hi
      exact absurd hi (by decide)
theorem c86 {f : Int32 → Mm → Prop} {x : Nat} {N : M2} (hd : 9 ≤ d) (hI : INV b S) (hA : agr (pC b) S N) (ha : a ≤ 2) (hn : n ≤ 12) (hx : x < 1024) (q : ∀ N' n' v, agr (fr [17, 43, 44, 45, 46, 47]) N N' → hoP b S a (b1N x) set n n' → gI N' 43 4 = nI n' → (∀ k, k < n' → gI N' 45 k = nI (rkK b S a (b1N x) set n' (st0 S) k)) → v.toInt = wtK b S a (b1N x) set n' 0 (st0 S) → f v (FR b, N')) : WP d 107 86 0 [.ref 43, .int (nI a), .int set, .int (nI n), .int (nI x), .ref 5, .ref 7, U] [] 107 (FR b, N) (rI f) := by
  obtain ⟨d, rfl⟩ := ex1 (e := 8) hd
  obtain ⟨hB, hB2⟩ := b1_ok hx
  have hs0 := st0_lt hI.2.1.1
  have h1 : ix (gI S 5 0) < 16 := hI.2.1.1 0 (by decide)
  have h2 : ix (gI S 5 2) < 16 := hI.2.1.1 2 (by decide)
  have est : (gI S 5 0 * 16 + gI S 5 2 : Int32) = nI (st0 S) := by
    apply ix_inj
    have e1 : ix (gI S 5 0 * 16) = ix (gI S 5 0) * 16 := by rw [ix_mul (by rw [show ix 16 = 16 from rfl]; omega)]; rfl
    rw [ix_add (by rw [e1]; omega), e1, ix_n (by omega)]
    rfl
  have l : ∀ m j (N2 : M2) (u1 u2 u3 u4 : Value), j + m = 3328 → agr (fr [17, 43, 44, 45, 46, 47]) N N2 → PrK a (b1N x) set n N2 → (∀ i, i < j → gI N2 47 i = -1000) → WP (d + 1) 107 86 38 [.ref 43, u1, u2, u3, u4, .ref 5, .ref 7, .int (nI j)] [] 107 (FR b, N2) (rI f) := by
    intro m
    induction m with
    | zero =>
      intro j N2 u1 u2 u3 u4 hj hF hP h47
      have : j = 3328 := by omega
      subst this
      have hA2 : agr (pC b) S N2 := agr_t hA (frp_pC hF)
      have e50 : gI N2 5 0 = gI S 5 0 := agr_nI hA2 rfl
      have e52 : gI N2 5 2 = gI S 5 2 := agr_nI hA2 rfl
      refine v86_38 (brK_t (by decide) (oK_i (by decide) rfl (oK_i (by decide) rfl ?_)))
      rw [e50, e52, est]
      refine c87 (by omega) (by omega) ⟨rfl, ?_⟩
      have hF3 : agr (fr [17, 43, 44, 45, 46, 47]) N (sI N2 47 (st0 S) 0) := agr_sI rfl hF
      refine c88 (S := S) (a := a) (B := b1N x) (set := set) (n := n) (by omega) hI (agr_t hA (frp_pC hF3)) hB ha hn ⟨hP.1, hP.2.1, hP.2.2.1, hP.2.2.2⟩ (fun i hi => ?_) (fun N4 n' hN4 hP4 hn' hn1 hn2 hrw hsd => ⟨rfl, ?_⟩)
      · by_cases e : i = st0 S
        · rw [e, gI_s, Nat.beq_refl]; rfl
        · rw [gI_oj e, h47 i hi, show Nat.beq i (st0 S) = false from by
            cases hb : Nat.beq i (st0 S) with
            | false => rfl
            | true => exact absurd (Nat.eq_of_beq_eq_true hb) e]
          rfl
      · have hF4 : agr (fr [17, 43, 44, 45, 46, 47]) N N4 := agr_t hF3 (fr_s (by decide) hN4)
        refine c93 (S := S) (a := a) (B := b1N x) (set := set) (n := n') (by omega) (agr_t hA (frp_pC hF4)) ha hB hB2 hn' hP4 hrw hsd (fun N5 hN5 hwt => ⟨rfl, ?_⟩)
        have hF5 : agr (fr [17, 43, 44, 45, 46, 47]) N N5 := agr_t hF4 (fr_s (by decide) hN5)
        refine c99 (S := S) (a := a) (B := b1N x) (set := set) (n := n') (by omega) hI (agr_t hA (frp_pC hF5)) ha hB hB2 hn' (PrK_a (l := [44, 47]) rfl hN5 hP4) (fun k hk s hs hr r g1 g2 => by rw [agr_nL hN5 rfl]; exact hsd k hk s hs hr r g1 g2) hwt (fun N6 hN6 hch => ⟨rfl, ?_⟩)
        refine c89 (by omega) (by omega) ⟨rfl, ?_⟩
        have w0 := (hwt 0 (by omega) (st0 S) hs0).1 rfl
        rw [Nat.zero_mul, Nat.zero_add] at w0
        dsimp only
        refine q N6 n' _ (agr_t hF5 (fr_s (by decide) hN6)) ⟨hn', hn1, hn2⟩ ?_ hch ?_
        · rw [agr_nI hN6 rfl, agr_nI hN5 rfl]; exact hP4.2.2.2
        · rw [agr_nI hN6 rfl]; exact w0
    | succ m ih =>
      intro j N2 u1 u2 u3 u4 hj hF hP h47
      refine v86_38 (brK_f (by rw [show (3328 : Int32) = nI 3328 from rfl, nI_leI (by decide) (by omega)]; omega) (iK_i (by rw [ix_n (by omega)]; omega) ?_))
      rw [ix_n (by omega), nI_1]
      refine ih (j + 1) _ _ _ _ _ (by omega) (agr_sI rfl hF) ⟨hP.1, hP.2.1, hP.2.2.1, hP.2.2.2⟩ (fun i hi => ?_)
      by_cases e : i = j
      · subst e; exact gI_s ..
      · rw [gI_oj e]; exact h47 i (by omega)
  have emn : imn (nI n) 12 = nI n := by
    unfold imn
    rw [if_neg (by rw [show (12 : Int32) = nI 12 from rfl, nI_ltI (by decide) (by omega)]; omega)]
  have go : ∀ w, w = nI (b1N x) → WP (d + 1) 107 86 38 [.ref 43, .int (nI a), .int set, .int (nI n), .int (nI x), .ref 5, .ref 7, .int 0] [] 107 (FR b, sI (sI (sI (sI N 43 6 (nI a)) 43 7 set) 43 4 (imn (nI n) 12)) 43 5 w) (rI f) := by
    intro w hw
    subst hw
    rw [emn]
    refine l 3328 0 _ _ _ _ _ (by omega) (agr_sI rfl (agr_sI rfl (agr_sI rfl (agr_sI rfl (agr_r N))))) ⟨?_, ?_, gI_s .., ?_⟩ (fun i hi => absurd hi (by omega))
    · rw [gI_oj (by decide), gI_oj (by decide), gI_oj (by decide)]; exact gI_s ..
    · rw [gI_oj (by decide), gI_oj (by decide)]; exact gI_s ..
    · rw [gI_oj (by decide)]; exact gI_s ..
  refine v86_0 ⟨fun z => go 1 ?_, fun z => go (nI x) ?_⟩
  · have : x = 0 := by
      have := (ix_eq (n := 0) (by decide)).mp z
      rw [ix_n (by omega)] at this
      exact this
    subst this
    rfl
  · have : ¬ x = 0 := fun e => z (by rw [e]; rfl)
    unfold b1N
    rw [show Nat.beq x 0 = false from by
      cases hb : Nat.beq x 0 with
      | false => rfl
      | true => exact absurd (Nat.eq_of_beq_eq_true hb) this]
    rfl
theorem c100 {f : Int32 → Mm → Prop} {w : Int32} {m : Nat} {N : M2} (hd : 2 ≤ d) (hm : m ≤ 12) (h43 : gI N 43 4 = nI m) (q1 : ix w < m → f (gI N 45 (ix w)) (FR b, N)) (q2 : ¬ ix w < m → f (-2) (FR b, N)) : WP d 107 100 0 [.ref 43, .int w] [] 107 (FR b, N) (rI f) := by
  obtain ⟨d, rfl⟩ := ex1 (e := 1) hd
  have w1 := ix_t w
  have m1 := nI_toInt (n := m) (by omega)
  refine v100_0 ?_
  rw [h43]
  refine ⟨fun z => q2 ?_, fun z => ⟨fun z2 => q2 ?_, fun z2 => ?_⟩⟩
  · rw [i_lt, z_toInt] at z; omega
  · rw [i_lt, z_toInt] at z; rw [i_le] at z2; omega
  · rw [i_lt, z_toInt] at z
    rw [i_le] at z2
    have hw : ix w < m := by omega
    have ea : atV N 45 w = gI N 45 (ix w) := by
      unfold atV
      rw [rg_t.mpr (show ix w < ln 45 from by show ix w < 12; omega)]
      rfl
    have := q1 hw
    rw [← ea] at this
    exact c15 (by omega) (by decide) (Or.inl rfl) ⟨rfl, this⟩
end PLANNER3
