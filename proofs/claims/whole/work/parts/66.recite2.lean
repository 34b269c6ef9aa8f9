/-! THE REFERENCE'S WAYS -/
def frw : Nat → Nat → Bool := fun r j => nin [84, 85, 88, 89] r && !(Nat.beq r 67 && Nat.beq j 41)
theorem frw_pC {b : Bool} {N N' : M2} (h : agr frw N N') : agr (pC b) N N' := by
  refine agr_m (fun r j hq => ?_) h
  unfold frw
  have h1 : nin [84, 85, 88, 89] r = true := nin_c (q := pC b) (fun a ha j => by
    simp only [List.mem_cons, List.not_mem_nil, or_false] at ha
    rcases ha with e | e | e | e <;> subst e <;> rfl) r j hq
  rw [h1]
  cases hb : (Nat.beq r 67 && Nat.beq j 41) with
  | false => rfl
  | true =>
    rw [Bool.and_eq_true] at hb
    have e1 := Nat.eq_of_beq_eq_true hb.1
    have e2 := Nat.eq_of_beq_eq_true hb.2
    subst e1 e2
    exact absurd hq (by show ¬ slot67 41 = true; decide)
theorem frw_s {N N' : M2} (h : agr (fr [84, 85]) N N') : agr frw N N' := fr_m (q := frw) (fun a ha j => by
  rcases List.mem_cons.mp ha with e | e
  · rw [e]; rfl
  · rw [List.mem_singleton.mp e]; rfl) h
def phR (S : M2) (i n : Nat) (N : M2) : Prop := ∀ k, k < n → gI N 88 k = phB S i k
def wyR (b : Bool) (S : M2) (i k : Nat) (N : M2) : Prop := ∀ m, m < 16 → gL N 89 (k * 16 + m) = lN (wyN b S i (rcL S i - k) k (nI m))
section RECITER
variable {d : Nat} {b : Bool} {S : M2} {i : Nat}
theorem c247 {f : Int32 → Mm → Prop} {k : Nat} {N : M2} (hd : 1 ≤ d) (hI : INV b S) (hA : agr (pC b) S N) (hk : k < rcL S i) (hp : phR S i (rcL S i) N) (q : f (laK S i k) (FR b, N)) : WP d 107 247 0 [.ref 67, .int (nI k)] [] 107 (FR b, N) (rI f) := by
  obtain ⟨d, rfl⟩ := ex1 hd
  have h12 := (rcL_ok S i).1
  refine v247_0 ⟨fun z => ?_, fun z => ?_⟩
  · have : k = 0 := by
      have := (ix_eq (n := 0) (by decide)).mp z
      rw [ix_n (by omega)] at this
      exact this
    subst this
    rw [e68 hI hA (by decide)]
    exact q
  · cases k with
    | zero => exact absurd rfl z
    | succ k =>
      rw [nI_pred, ix_n (by omega), hp k (by omega)]
      exact iK_i (by rw [ix_n (by omega)]; omega) q
/-- recitesBy -/
theorem c246 {f : Int32 → Mm → Prop} {k : Nat} {m r : Int32} {N : M2} (hd : 5 ≤ d) (hI : INV b S) (hA : agr (pC b) S N) (hk : k < rcL S i) (hp : phR S i (rcL S i) N) (q : ∀ N', agr (fr [84, 85]) N N' → f (bI (rcB b S i k m r)) (FR b, N')) : WP d 107 246 0 [.ref 67, .int (nI k), .int m, .int r] [] 107 (FR b, N) (rI f) := by
  obtain ⟨d, rfl⟩ := ex1 (e := 4) hd
  have hL : LawR b S := hI.2.2.2.2.2.2.2.2.2
  have h12 := (rcL_ok S i).1
  have e6 : gI S 68 6 = tmV S := hI.2.1.2 6 (by decide)
  refine v246_0 (c234 (S := S) (by omega) hI hA (by omega) ⟨rfl, c247 (S := S) (by omega) hI hA hk hp ⟨rfl, c235 (S := S) (by omega) hI hA (by omega) ⟨rfl, c215 (S := S) (by omega) hL hA (fun N1 hN1 => ⟨rfl, iK_i (by rw [ix_n (by omega)]; omega) ?_⟩)⟩⟩⟩)
  rw [e6, ix_n (by omega)]
  dsimp only
  rw [agr_nI hN1 rfl, hp k hk]
  have q1 := q N1 hN1
  unfold rcB at q1
  refine brK_d (fun z => ?_) (fun z => ?_)
  · rw [z] at q1; exact q1
  · rw [z] at q1; exact q1
theorem c245 {f : Int64 → Mm → Prop} {k : Nat} {m r : Int32} {N : M2} (hd : 6 ≤ d) (hI : INV b S) (hA : agr (pC b) S N) (hk : k < rcL S i) (hm : ix m < 16) (hr : ix r < 10) (hp : phR S i (rcL S i) N) (hw : wyR b S i (k + 1) N) (q : ∀ N', agr (fr [84, 85]) N N' → f (lN (wbN b S i k m r)) (FR b, N')) : WP d 107 245 0 [.ref 67, .int (nI k), .int m, .int r] [] 107 (FR b, N) (rL f) := by
  obtain ⟨d, rfl⟩ := ex1 (e := 5) hd
  have h12 := (rcL_ok S i).1
  refine v245_0 (c246 (S := S) (by omega) hI hA hk hp (fun N1 hN1 => ⟨rfl, ?_⟩))
  have q1 := q N1 hN1
  unfold wbN at q1
  refine brK_b (fun z => ?_) (fun z => iK_i (by rw [ix_n (by omega)]; omega) ?_)
  · rw [z] at q1; exact q1
  · rw [z] at q1
    have hn := nmM_lt hm ((rcL_ok S i).2.2 k hk) hr
    obtain ⟨m', hm', he⟩ := nI_of_lt hn
    rw [ix_n (by omega)]
    dsimp only
    rw [agr_nI hN1 rfl, hp k hk]
    have e1 : (m + phB S i k + r - (m + phB S i k + r) / 16 * 16 : Int32) = nI m' := he
    have e2 : ix (16 * (nI k + 1) + nI m') = (k + 1) * 16 + m' := by rw [nI_1]; exact e16p (by omega) (by omega)
    rw [e1, e2, agr_nL hN1 rfl, hw m' hm']
    refine iK_i (by rw [e2]; omega) ?_
    rw [he] at q1
    exact q1
theorem c243 {g : Mm → Prop} {x : Int32} {N : M2} (hd : 4 ≤ d) (hI : INV b S) (hx : ix x < 6) (hr : isRowV S (ix x) 0 = true) (hA : agr (pC b) S N) (q : ∀ N', agr frw N N' → gI N' 67 41 = nI (rcL S (ix x)) → phR S (ix x) (rcL S (ix x)) N' → g (FR b, N')) : WP d 107 243 0 [.ref 67, .int x] [] 107 (FR b, N) (rV g) := by
  obtain ⟨d, rfl⟩ := ex1 (e := 3) hd
  obtain ⟨_, _, hz, h104, _⟩ := row_of hI hx hr
  have hz : szS S (ix x) ≤ 60 := hz
  have h12 := (rcL_ok S (ix x)).1
  have l : ∀ m k (N2 : M2), k + m = min (szS S (ix x)) 12 → phL S (ix x) m k = rcL S (ix x) → agr frw N N2 → gI N2 67 41 = nI k → phR S (ix x) k N2 → WP (d + 1) 107 243 5 [.ref 67, .int x] [] 107 (FR b, N2) (rV g) := by
    intro m
    induction m with
    | zero =>
      intro k N2 hm hL hF h41 hp
      have hA2 : agr (pC b) S N2 := agr_t hA (frw_pC hF)
      have e104 : gI N2 104 (ix x) = nI (szS S (ix x)) := by rw [agr_nI (p := pC b) hA2 rfl, h104]; exact (n_ix _).symm
      have : k = rcL S (ix x) := hL
      subst this
      refine v243_5 ?_
      rw [h41]
      refine ⟨fun _ => q N2 hF h41 hp, fun z => iK_i hx (brK_t ?_ (q N2 hF h41 hp))⟩
      rw [show (12 : Int32) = nI 12 from rfl, nI_leI (by decide) (by omega)] at z
      rw [e104, nI_leI (by omega) (by omega)]
      omega
    | succ m ih =>
      intro k N2 hm hL hF h41 hp
      have hA2 : agr (pC b) S N2 := agr_t hA (frw_pC hF)
      have e104 : gI N2 104 (ix x) = nI (szS S (ix x)) := by rw [agr_nI (p := pC b) hA2 rfl, h104]; exact (n_ix _).symm
      have hg : rg (nI k) (ix (gI S (shC (ix x)) 3)) = true := rg_t.mpr (by rw [ix_n (by omega)]; show k < szS S (ix x); omega)
      unfold phL at hL
      refine v243_5 ?_
      rw [h41, e104]
      refine brK_f (by rw [show (12 : Int32) = nI 12 from rfl, nI_leI (by decide) (by omega)]; omega) (iK_i hx (brK_f (by rw [nI_leI (by omega) (by omega)]; omega) (c224 (S := S) (by omega) hI hA2 hx hr hg ⟨rfl, c193 (by omega) ⟨rfl, brK_b (fun z => ?_) (fun z => ?_)⟩⟩)))
      · have z : isTh S (ix x) k = false := z
        rw [z] at hL
        have : k = rcL S (ix x) := hL
        subst this
        exact q N2 hF h41 hp
      · have z : isTh S (ix x) k = true := z
        rw [z] at hL
        dsimp only
        rw [h41]
        refine c224 (S := S) (by omega) hI hA2 hx hr hg ⟨rfl, iK_i (by rw [ix_n (by omega)]; omega) ?_⟩
        dsimp only
        rw [h41, ix_n (by omega), nI_1]
        refine ih (k + 1) _ (by omega) hL (agr_sI rfl (agr_sI rfl hF)) (gI_s ..) (fun c hc => ?_)
        rw [gI_or (by decide)]
        by_cases e : c = k
        · subst e; exact gI_s ..
        · rw [gI_oj e]; exact hp c (by omega)
  exact v243_0 (l (min (szS S (ix x)) 12) 0 _ (by omega) rfl (agr_sI rfl (agr_r N)) (gI_s ..) (fun c hc => absurd hc (by omega)))
def RrK (b : Bool) (S : M2) (i : Nat) (N : M2) : Prop := gI N 67 41 = nI (rcL S i) ∧ phR S i (rcL S i) N ∧ ∀ k, k ≤ rcL S i → wyR b S i k N
theorem RrK_s {N N' : M2} (h : RrK b S i N) (ha : agr (fr [84, 85]) N N') : RrK b S i N' := ⟨(agr_nI ha rfl).trans h.1, fun k hk => (agr_nI ha rfl).trans (h.2.1 k hk), fun k hk m hm => (agr_nL ha rfl).trans (h.2.2 k hk m hm)⟩
theorem c244 {g : Mm → Prop} {N : M2} (hd : 8 ≤ d) (hI : INV b S) (hA : agr (pC b) S N) (h41 : gI N 67 41 = nI (rcL S i)) (hp : phR S i (rcL S i) N) (q : ∀ N', agr frw N N' → RrK b S i N' → g (FR b, N')) : WP d 107 244 0 [.ref 67, U, U, U, U, U] [] 107 (FR b, N) (rV g) := by
  obtain ⟨d, rfl⟩ := ex1 (e := 7) hd
  have h12 := (rcL_ok S i).1
  have f89 : ∀ {A B : M2}, agr (fr [84, 85, 89]) A B → agr frw A B := fun h => fr_m (q := frw) (fun a ha j => by
    simp only [List.mem_cons, List.not_mem_nil, or_false] at ha
    rcases ha with e | e | e <;> subst e <;> rfl) h
  have back : ∀ k (N2 : M2) (u2 u3 u4 u5 : Value), k ≤ rcL S i → agr (fr [84, 85, 89]) N N2 → (∀ c, k ≤ c → c ≤ rcL S i → wyR b S i c N2) → WP (d + 1) 107 244 36 [.ref 67, .int (nI k - 1), u2, u3, u4, u5] [] 107 (FR b, N2) (rV g) := by
    intro k
    induction k with
    | zero =>
      intro N2 u2 u3 u4 u5 hk hF hw
      refine v244_36 (brK_t (by decide) (q N2 (f89 hF) ⟨(agr_nI hF rfl).trans h41, fun c hc => (agr_nI hF rfl).trans (hp c hc), fun c hc => hw c (by omega) hc⟩))
    | succ k ih =>
      intro N2 u2 u3 u4 u5 hk hF hw
      have row : ∀ n m (N3 : M2) (u3 u4 u5 : Value), m + n = 16 → agr (fr [84, 85, 89]) N2 N3 → (∀ c, k + 1 ≤ c → c ≤ rcL S i → wyR b S i c N3) → (∀ m', m' < m → gL N3 89 (k * 16 + m') = lN (wyN b S i (rcL S i - k) k (nI m'))) → WP (d + 1) 107 244 42 [.ref 67, .int (nI k), .int (nI m), u3, u4, u5] [] 107 (FR b, N3) (rV g) := by
        intro n
        induction n with
        | zero =>
          intro m N3 u3 u4 u5 hm hF3 hw3 hrow
          have : m = 16 := by omega
          subst this
          refine v244_42 (brK_t (by decide) ?_)
          have em : (nI k + (-1) : Int32) = nI k - 1 := (Int32.sub_eq_add_neg ..).symm
          rw [em]
          refine ih N3 _ _ _ _ (by omega) (agr_t hF hF3) (fun c hc1 hc2 => ?_)
          by_cases e : c = k
          · subst e; exact hrow
          · exact hw3 c (by omega) hc2
        | succ n ihn =>
          intro m N3 u3 u4 u5 hm hF3 hw3 hrow
          refine v244_42 (brK_f (by rw [show (16 : Int32) = nI 16 from rfl, nI_leI (by decide) (by omega)]; omega) ?_)
          have add : ∀ n r (N4 : M2) (u4 : Value), r + n = 10 → agr (fr [84, 85]) N3 N4 → WP (d + 1) 107 244 53 [.ref 67, .int (nI k), .int (nI m), .long (smL (fun r => wbN b S i k (nI m) (nI r)) r), u4, .int (nI r)] [] 107 (FR b, N4) (rV g) := by
            intro n
            induction n with
            | zero =>
              intro r N4 u4 hr hF4
              have : r = 10 := by omega
              subst this
              have e16 : ix (16 * nI k + nI m) = k * 16 + m := e16p (by omega) (by omega)
              refine v244_53 (brK_t (by decide) (iK_i (by rw [e16]; omega) ?_))
              rw [e16, nI_1]
              refine ihn (m + 1) _ _ _ _ (by omega) (agr_sL rfl (agr_t hF3 (fr_s (by decide) hF4))) (fun c hc1 hc2 m' hm' => ?_) (fun m' hm' => ?_)
              · rw [gL_o (by omega), agr_nL hF4 rfl]; exact hw3 c hc1 hc2 m' hm'
              · by_cases e : m' = m
                · subst e
                  rw [gL_s, smL_e, ← wy_s (by omega)]
                · rw [gL_o (by omega), agr_nL hF4 rfl]; exact hrow m' (by omega)
            | succ n ihr =>
              intro r N4 u4 hr hF4
              have hF5 : agr (fr [84, 85, 89]) N N4 := agr_t hF (agr_t hF3 (fr_s (by decide) hF4))
              refine v244_53 (brK_f (by rw [show (10 : Int32) = nI 10 from rfl, nI_leI (by decide) (by omega)]; omega) (c245 (S := S) (by omega) hI (agr_t hA (frw_pC (f89 hF5))) (by omega) (by rw [ix_n (by omega)]; omega) (by rw [ix_n (by omega)]; omega) (fun c hc => (agr_nI hF5 rfl).trans (hp c hc)) (fun m' hm' => (agr_nL hF4 rfl).trans (hw3 (k + 1) (by omega) (by omega) m' hm')) (fun N5 hN5 => ⟨rfl, ?_⟩)))
              rw [nI_1]
              exact ihr (r + 1) N5 _ (by omega) (agr_t hF4 hN5)
          exact add 10 0 N3 _ (by omega) (agr_r N3)
      refine v244_36 (brK_f (by rw [nI_pred]; exact nI_pos (by omega)) ?_)
      rw [nI_pred]
      exact row 16 0 N2 _ _ _ (by omega) (agr_r N2) (fun c hc1 hc2 => hw c hc1 hc2) (fun m' hm' => absurd hm' (by omega))
  have ones : ∀ n m (N2 : M2) (u2 u3 u4 u5 : Value), m + n = 16 → agr (fr [84, 85, 89]) N N2 → (∀ m', m' < m → gL N2 89 (rcL S i * 16 + m') = 1) → WP (d + 1) 107 244 2 [.ref 67, .int (nI m), u2, u3, u4, u5] [] 107 (FR b, N2) (rV g) := by
    intro n
    induction n with
    | zero =>
      intro m N2 u2 u3 u4 u5 hm hF hrow
      have : m = 16 := by omega
      subst this
      have e41 : gI N2 67 41 = nI (rcL S i) := (agr_nI hF rfl).trans h41
      refine v244_2 (brK_t (by decide) ?_)
      rw [e41]
      refine back (rcL S i) N2 _ _ _ _ (Nat.le_refl _) hF (fun c h1 h2 m' hm' => ?_)
      have : c = rcL S i := by omega
      subst this
      rw [hrow m' hm', Nat.sub_self]
      rfl
    | succ n ihn =>
      intro m N2 u2 u3 u4 u5 hm hF hrow
      have e41 : gI N2 67 41 = nI (rcL S i) := (agr_nI hF rfl).trans h41
      have e16 : ix (16 * nI (rcL S i) + nI m) = rcL S i * 16 + m := e16p (by omega) (by omega)
      refine v244_2 (brK_f (by rw [show (16 : Int32) = nI 16 from rfl, nI_leI (by decide) (by omega)]; omega) ?_)
      rw [e41]
      refine iK_i (by rw [e16]; omega) ?_
      rw [e16, nI_1]
      refine ihn (m + 1) _ _ _ _ _ (by omega) (agr_sL rfl hF) (fun m' hm' => ?_)
      by_cases e : m' = m
      · subst e; exact gL_s ..
      · rw [gL_o (by omega)]; exact hrow m' (by omega)
  exact v244_0 (ones 16 0 N _ _ _ _ (by omega) (agr_r N) (fun m' hm' => absurd hm' (by omega)))
/-! waysTo -/
def wtV (b : Bool) (S : M2) (x : Int32) : Int64 := bif rg x 6 && isRowV S (ix x) 0 then lN (wyN b S (ix x) (rcL S (ix x)) 0 (gI S 5 0)) else -9223372036854775808
theorem P_waysTo (hI : INV b S) {x : Int32} : PAIRL b S 112 242 [.ref 4, .int x, U] [.ref 67, .int x] := by
  refine PAIRL_ro hI (wtV b S x) (fun d hd f k => ?_) (fun N hA d hd f k => ?_)
  · unfold wtV at k
    refine v112_0 (c18 (by omega) (fun h => ⟨rfl, ?_⟩) (fun h => ⟨rfl, ?_⟩))
    · rw [h] at k; exact k S (agr_r S)
    · have hi := rg_tt h
      have hk := sh_kd _ hi
      refine oK_i hk.2.1 hk.1 (c19 (by omega) hi ⟨rfl, brK_b (fun h5 => ?_) (fun h5 => c102 (S := S) (by omega) hI hi h5 (agr_r S) (fun N' hN' hK => ⟨rfl, ?_⟩))⟩)
      · rw [h, h5] at k; exact k S (agr_r S)
      · rw [h, h5] at k
        exact k N' (frr_pC hN')
  · unfold wtV at k
    refine v242_0 (c183 (by omega) ⟨rfl, brK_b (fun h => ?_) (fun h => ?_)⟩)
    · rw [h] at k; exact k N hA
    · have hi := rg_tt h
      refine c221 (S := S) (by omega) hI hA hi (by decide) ⟨rfl, ?_⟩
      cases h5 : isRowV S (ix x) 0 with
      | false => rw [h, h5] at k; exact brK_f (rfV_neg S _) (k N hA)
      | true =>
        rw [h, h5] at k
        refine brK_t (show (0 : Int32) ≤ 0 by decide) (c243 (S := S) (by omega) hI hi h5 hA (fun N1 hN1 h41 hp => ⟨rfl, c244 (S := S) (by omega) hI (agr_t hA (frw_pC hN1)) h41 hp (fun N2 hN2 hK => ⟨rfl, ?_⟩)⟩))
        have hA2 : agr (pC b) S N2 := agr_t hA (agr_t (frw_pC hN1) (frw_pC hN2))
        have h16 : ix (gI S 5 0) < 16 := hI.2.1.1 0 (by decide)
        have hw := hK.2.2 0 (by omega) (ix (gI S 5 0)) h16
        rw [n_ix, Nat.zero_mul, Nat.zero_add] at hw
        dsimp only
        rw [e68 hI hA2 (by decide), hw]
        exact iK_i (by omega) (k N2 hA2)
end RECITER
