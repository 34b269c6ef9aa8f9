/-! THE CLASS'S RECITER -/
theorem frr_pC {b : Bool} {N N' : M2} (h : agr (fr [17, 48, 49, 50, 51, 52]) N N') : agr (pC b) N N' := fr_m (fun a ha j => by
  simp only [List.mem_cons, List.not_mem_nil, or_false] at ha
  rcases ha with e | e | e | e | e | e <;> subst e <;> rfl) h
def phK (S : M2) (i n : Nat) (N : M2) : Prop := ∀ k, k < n → gI N 50 k = phB S i k
def ftK (b : Bool) (S : M2) (i k : Nat) (N : M2) : Prop := ∀ m, m < 16 → ∀ r, r < 10 → bitV (gI N 51 (k * 16 + m)) (nI r) = bI (rcB b S i k (nI m) (nI r))
def wyK (b : Bool) (S : M2) (i k : Nat) (N : M2) : Prop := ∀ m, m < 16 → gL N 52 (k * 16 + m) = lN (wyN b S i (rcL S i - k) k (nI m))
theorem k16m {k m : Nat} (hk : k < 100) (hm : m < 100) : ix (nI k * 16 + nI m) = k * 16 + m := by
  rw [show (16 : Int32) = nI 16 from rfl, nI_mul, nI_add, ix_n (by omega)]
section RECITE
variable {d : Nat} {b : Bool} {S : M2} {i : Nat}
theorem at50 {N : M2} {n k : Nat} (h : phK S i n N) (hk : k < n) (hn : n ≤ 12) : atV N 50 (nI k) = phB S i k := by
  unfold atV
  rw [rg_t.mpr (by rw [ix_n (by omega)]; show k < 12; omega), ix_n (by omega)]
  exact h k hk
theorem c103 {g : Mm → Prop} {k m : Nat} {s : St} {N : M2} (hd : 4 ≤ d) (hI : INV b S) (hA : agr (pC b) S N) (hk : k < rcL S i) (hm : m < 16) (hp : phK S i (rcL S i) N) (hs : HW S N 49 s) (h1 : s.2.1 = hgK S k) (h2 : s.2.2.1 = laK S i k) (h3 : s.2.2.2 = hrK S k) (q : ∀ N', agr (fr [17, 49, 51]) N N' → HW S N' 49 (nI m, s.2.1, s.2.2.1, s.2.2.2) → (∀ j, j ≠ k * 16 + m → gI N' 51 j = gI N 51 j) → (∀ r, r < 10 → bitV (gI N' 51 (k * 16 + m)) (nI r) = bI (rcB b S i k (nI m) (nI r))) → g (FR b, N')) : WP d 107 103 0 [.ref 48, .int (nI k), .int (nI m), .ref 7, U, U] [] 107 (FR b, N) (rV g) := by
  obtain ⟨d, rfl⟩ := ex1 (e := 3) hd
  have hL : LawR b S := hI.2.2.2.2.2.2.2.2.2
  have h12 := (rcL_ok S i).1
  have eix := k16m (k := k) (m := m) (by omega) (by omega)
  have hs0 : HW S (sI N 49 0 (nI m)) 49 (nI m, s.2.1, s.2.2.1, s.2.2.2) := by
    refine ⟨⟨gI_s .., ?_, ?_, ?_, ?_⟩, ?_, ?_⟩
    · rw [gI_oj (by decide)]; exact hs.1.2.1
    · rw [gI_oj (by decide)]; exact hs.1.2.2.1
    · rw [gI_oj (by decide)]; exact hs.1.2.2.2.1
    · rw [gI_oj (by decide)]; exact hs.1.2.2.2.2
    · rw [gI_oj (by decide)]; exact hs.2.1
    · rw [gI_oj (by decide)]; exact hs.2.2
  have hF0 : agr (fr [17, 49, 51]) N (sI N 49 0 (nI m)) := agr_sI rfl (agr_r N)
  have pcF : ∀ {N' : M2}, agr (fr [17, 49, 51]) N N' → agr (pC b) S N' := fun h => agr_t hA (fr_m (fun a ha j => by
    simp only [List.mem_cons, List.not_mem_nil, or_false] at ha
    rcases ha with e | e | e <;> subst e <;> rfl) h)
  have l : ∀ n r (N2 : M2) (u : Nat), r + n = 10 → agr (fr [17]) (sI N 49 0 (nI m)) N2 → u < 2 ^ 10 → (∀ t, t < 10 → u.testBit t = (decide (t < r) && rcB b S i k (nI m) (nI t))) → WP (d + 1) 107 103 14 [.ref 48, .int (nI k), .int (nI m), .ref 7, .int (nI u), .int (nI r)] [] 107 (FR b, N2) (rV g) := by
    intro n
    induction n with
    | zero =>
      intro r N2 u hr hN hu ht
      have : r = 10 := by omega
      subst this
      have ei2 : nI k * 16 + nI m = nI (k * 16 + m) := ix_inj (by rw [eix, ix_n (by omega)])
      refine v103_14 (brK_t (by decide) ?_)
      rw [ei2]
      refine brK_f (nI_pos (by omega)) (brK_f (by rw [show (192 : Int32) = nI 192 from rfl, nI_leI (by decide) (by omega)]; omega) (iK_i (by rw [ix_n (by omega)]; omega) ?_))
      rw [ix_n (by omega)]
      refine q _ (agr_sI rfl (agr_t hF0 (fr_s (by decide) hN))) ?_ (fun j hj => ?_) (fun t ht2 => ?_)
      · exact HW_a (fun j => by rw [gI_or (by decide)]; exact agr_nI hN rfl) hs0
      · rw [gI_oj hj, agr_nI hN rfl, gI_or (by decide)]
      · rw [gI_s, bitV_n (by omega) (by omega)]
        unfold tb
        rw [ht t ht2, decide_eq_true (show t < 10 from ht2), Bool.true_and]
        exact (bI_nI _).symm
    | succ n ih =>
      intro r N2 u hr hN hu ht
      have hF2 : agr (fr [17, 49, 51]) N N2 := agr_t hF0 (fr_s (by decide) hN)
      have hs2 : HW S N2 49 (nI m, s.2.1, s.2.2.1, s.2.2.2) := HW_a (fun j => agr_nI hN rfl) hs0
      refine v103_14 (brK_f (by rw [show (10 : Int32) = nI 10 from rfl, nI_leI (by decide) (by omega)]; omega) (c60 (S := S) (by omega) (by decide) rfl hL (pcF hF2) hs2.1 (fun N3 hN3 => ⟨rfl, c15 (by omega) (by decide) (Or.inl rfl) ⟨rfl, ?_⟩⟩)))
      have hp3 : phK S i (rcL S i) N3 := fun k hk => by rw [agr_nI hN3 rfl, agr_nI hF2 rfl]; exact hp k hk
      have hN4 : agr (fr [17]) (sI N 49 0 (nI m)) N3 := agr_t hN hN3
      rw [at50 hp3 hk h12, h1, h2, h3, nI_1]
      have nx : ∀ u', u' < 2 ^ 10 → (∀ t, t < 10 → u'.testBit t = (decide (t < r + 1) && rcB b S i k (nI m) (nI t))) → WP (d + 1) 107 103 14 [.ref 48, .int (nI k), .int (nI m), .ref 7, .int (nI u'), .int (nI (r + 1))] [] 107 (FR b, N3) (rV g) := fun u' hu' ht' => ih (r + 1) N3 u' (by omega) hN4 hu' ht'
      have p2 : 2 ^ r < 2 ^ 10 := Nat.pow_lt_pow_right (by decide) (by omega)
      refine brK_d (fun z => ?_) (fun z => ?_)
      · have z : rcB b S i k (nI m) (nI r) = true := z
        rw [sh_1 r (by omega), nI_or (by omega) (by omega)]
        refine nx _ (Nat.or_lt_two_pow hu p2) (fun t ht2 => ?_)
        rw [Nat.testBit_or, Nat.testBit_two_pow, ht t ht2]
        by_cases e : r = t
        · subst e
          rw [decide_eq_true (show r = r from rfl), decide_eq_true (show r < r + 1 by omega), z, Bool.or_true]; rfl
        · rw [decide_eq_false e, Bool.or_false, show decide (t < r + 1) = decide (t < r) from decide_eq_decide.mpr (by omega)]
      · have z : rcB b S i k (nI m) (nI r) = false := z
        rw [Int32.or_zero]
        refine nx u hu (fun t ht2 => ?_)
        rw [ht t ht2]
        by_cases e : r = t
        · subst e
          rw [z, Bool.and_false, Bool.and_false]
        · rw [show decide (t < r + 1) = decide (t < r) from decide_eq_decide.mpr (by omega)]
  refine v103_0 ?_
  rw [sF_eq]
  exact l 10 0 _ 0 (by omega) (agr_r _) (by decide) (fun t ht => by rw [Nat.zero_testBit, decide_eq_false (show ¬ t < 0 by omega)]; rfl)
theorem c107 {f : Int32 → Mm → Prop} {k : Nat} {m r : Int32} {N : M2} (hd : 2 ≤ d) (hk : k < rcL S i) (hp : phK S i (rcL S i) N) (q : f (nmM S i k m r) (FR b, N)) : WP d 107 107 0 [.ref 48, .int (nI k), .int m, .int r] [] 107 (FR b, N) (rI f) := by
  obtain ⟨d, rfl⟩ := ex1 (e := 1) hd
  refine v107_0 (c15 (by omega) (by decide) (Or.inl rfl) ⟨rfl, ?_⟩)
  rw [at50 hp hk (rcL_ok S i).1]
  exact q
theorem c108 {f : Int64 → Mm → Prop} {k : Nat} {m : Int32} {N : M2} (hd : 1 ≤ d) (hk : k ≤ 12) (hm : ix m < 16) (hw : wyK b S i k N) (q : f (lN (wyN b S i (rcL S i - k) k m)) (FR b, N)) : WP d 107 108 0 [.ref 48, .int (nI k), .int m, U] [] 107 (FR b, N) (rL f) := by
  obtain ⟨d, rfl⟩ := ex1 hd
  obtain ⟨m, hm2, rfl⟩ := nI_of_lt hm
  have ei2 : nI k * 16 + nI m = nI (k * 16 + m) := ix_inj (by rw [k16m (by omega) (by omega), ix_n (by omega)])
  refine v108_0 ?_
  rw [ei2]
  refine brK_f (nI_pos (by omega)) (brK_f (by rw [show (208 : Int32) = nI 208 from rfl, nI_leI (by decide) (by omega)]; omega) (iK_i (by rw [ix_n (by omega)]; omega) ?_))
  rw [ix_n (by omega), hw m hm2]
  exact q
/-- waysBy -/
theorem c106 {f : Int64 → Mm → Prop} {k : Nat} {m r : Int32} {N : M2} (hd : 4 ≤ d) (hk : k < rcL S i) (hm : ix m < 16) (hr : ix r < 10) (hp : phK S i (rcL S i) N) (ht : ftK b S i k N) (hw : wyK b S i (k + 1) N) (q : f (lN (wbN b S i k m r)) (FR b, N)) : WP d 107 106 0 [.ref 48, .int (nI k), .int m, .int r] [] 107 (FR b, N) (rL f) := by
  obtain ⟨d, rfl⟩ := ex1 (e := 3) hd
  have h12 := (rcL_ok S i).1
  have ei : ix (nI k * 16 + m) = k * 16 + ix m := by
    have := k16m (k := k) (m := ix m) (by omega) (by omega)
    rw [n_ix] at this
    exact this
  have ea : atV N 51 (nI k * 16 + m) = gI N 51 (k * 16 + ix m) := by
    unfold atV
    rw [rg_t.mpr (by rw [ei]; show k * 16 + ix m < 192; omega), ei]
    rfl
  have eb := ht (ix m) hm (ix r) hr
  rw [n_ix, n_ix] at eb
  refine v106_0 (c15 (by omega) (by decide) (Or.inl rfl) ⟨rfl, ?_⟩)
  rw [ea]
  have eb : ((gI N 51 (k * 16 + ix m) >>> (r &&& 31)) &&& 1 : Int32) = bI (rcB b S i k m r) := eb
  rw [eb]
  unfold wbN at q
  refine brK_b (fun z => ?_) (fun z => c107 (by omega) hk hp ⟨rfl, ?_⟩)
  · rw [z] at q; exact q
  · rw [z] at q
    rw [nI_1]
    exact c108 (by omega) (by omega) (nmM_lt hm ((rcL_ok S i).2.2 k hk) hr) hw ⟨rfl, q⟩
theorem c105 {f : Int64 → Mm → Prop} {k : Nat} {m : Int32} {N : M2} (hd : 5 ≤ d) (hk : k < rcL S i) (hm : ix m < 16) (hp : phK S i (rcL S i) N) (ht : ftK b S i k N) (hw : wyK b S i (k + 1) N) (q : f (lN (wyN b S i (rcL S i - k) k m)) (FR b, N)) : WP d 107 105 0 [.ref 48, .int (nI k), .int m, U, U, U] [] 107 (FR b, N) (rL f) := by
  obtain ⟨d, rfl⟩ := ex1 (e := 4) hd
  rw [wy_s hk, ← smL_e] at q
  have l : ∀ n r (u4 : Value), r + n = 10 → WP (d + 1) 107 105 5 [.ref 48, .int (nI k), .int m, .long (smL (fun r => wbN b S i k m (nI r)) r), u4, .int (nI r)] [] 107 (FR b, N) (rL f) := by
    intro n
    induction n with
    | zero =>
      intro r u4 hr
      have : r = 10 := by omega
      subst this
      exact v105_5 (brK_t (by decide) q)
    | succ n ih =>
      intro r u4 hr
      refine v105_5 (brK_f (by rw [show (10 : Int32) = nI 10 from rfl, nI_leI (by decide) (by omega)]; omega) (c106 (by omega) hk hm (by rw [ix_n (by omega)]; omega) hp ht hw ⟨rfl, ?_⟩))
      rw [nI_1]
      exact ih (r + 1) _ (by omega)
  exact v105_0 (l 10 0 _ (by omega))
theorem c104 {g : Mm → Prop} {k m : Nat} {v : Int64} {N : M2} (hd : 1 ≤ d) (hk : k ≤ 12) (hm : m < 16) (q : g (FR b, sL N 52 (k * 16 + m) v)) : WP d 107 104 0 [.ref 48, .int (nI k), .int (nI m), .long v, U, U] [] 107 (FR b, N) (rV g) := by
  obtain ⟨d, rfl⟩ := ex1 hd
  have ei2 : nI k * 16 + nI m = nI (k * 16 + m) := ix_inj (by rw [k16m (by omega) (by omega), ix_n (by omega)])
  refine v104_0 ?_
  rw [ei2]
  refine brK_f (nI_pos (by omega)) (brK_f (by rw [show (208 : Int32) = nI 208 from rfl, nI_leI (by decide) (by omega)]; omega) (iK_i (by rw [ix_n (by omega)]; omega) ?_))
  rw [ix_n (by omega)]
  exact q
/-- all that the reciter has found -/
def RcK (b : Bool) (S : M2) (i : Nat) (N : M2) : Prop := gI N 48 4 = nI (rcL S i) ∧ phK S i (rcL S i) N ∧ (∀ k, k < rcL S i → ftK b S i k N) ∧ ∀ k, k ≤ rcL S i → wyK b S i k N
theorem c102 {f : Int64 → Mm → Prop} {N : M2} (hd : 8 ≤ d) (hI : INV b S) (hi : i < 6) (hr : isRowV S i 0 = true) (hA : agr (pC b) S N) (q : ∀ N', agr (fr [17, 48, 49, 50, 51, 52]) N N' → RcK b S i N' → f (lN (wyN b S i (rcL S i) 0 (gI S 5 0))) (FR b, N')) : WP d 107 102 0 [.ref 48, .ref (shC i), .ref 5, .ref 7, U, U] [] 107 (FR b, N) (rL f) := by
  obtain ⟨d, rfl⟩ := ex1 (e := 7) hd
  have hk6 := sh_kd i hi
  have hz : szS S i ≤ 60 := (row_of hI hi hr).2.2.1
  have h12 := (rcL_ok S i).1
  -- D: ways from the last hour back
  have back : ∀ k (N2 : M2) (u1 u3 u5 : Value), k ≤ rcL S i → agr (fr [17, 48, 49, 50, 51, 52]) N N2 → gI N2 48 4 = nI (rcL S i) → phK S i (rcL S i) N2 → (∀ c, c < rcL S i → ftK b S i c N2) → (∀ c, k ≤ c → c ≤ rcL S i → wyK b S i c N2) → WP (d + 1) 107 102 178 [.ref 48, u1, .ref 5, u3, .int (nI k - 1), u5] [] 107 (FR b, N2) (rL f) := by
    intro k
    induction k with
    | zero =>
      intro N2 u1 u3 u5 hk hF h48 hp ht hw
      have e5 : gI N2 5 0 = gI S 5 0 := agr_nI (agr_t hA (frr_pC (b := b) hF)) rfl
      refine v102_178 (brK_t (by decide) (oK_i (by decide) rfl ?_))
      rw [e5]
      refine c108 (k := 0) (by omega) (by omega) (hI.2.1.1 0 (by decide)) (hw 0 (by omega) (by omega)) ⟨rfl, ?_⟩
      exact q N2 hF ⟨h48, hp, ht, fun c hc => hw c (by omega) hc⟩
    | succ k ih =>
      intro N2 u1 u3 u5 hk hF h48 hp ht hw
      have inner : ∀ n m (N3 : M2), m + n = 16 → agr (fr [52]) N2 N3 → (∀ c, k + 1 ≤ c → c ≤ rcL S i → wyK b S i c N3) → (∀ m', m' < m → gL N3 52 (k * 16 + m') = lN (wyN b S i (rcL S i - k) k (nI m'))) → WP (d + 1) 107 102 186 [.ref 48, u1, .ref 5, u3, .int (nI k), .int (nI m)] [] 107 (FR b, N3) (rL f) := by
        intro n
        induction n with
        | zero =>
          intro m N3 hm hF3 hw3 hrow
          have : m = 16 := by omega
          subst this
          refine v102_186 (brK_t (by decide) ?_)
          have em : (nI k + (-1) : Int32) = nI k - 1 := (Int32.sub_eq_add_neg ..).symm
          rw [em]
          refine ih N3 _ _ _ (by omega) (agr_t hF (fr_s (by decide) hF3)) ((agr_nI hF3 rfl).trans h48) (fun c hc => (agr_nI hF3 rfl).trans (hp c hc)) (fun c hc m' hm' r hr' => by rw [agr_nI hF3 rfl]; exact ht c hc m' hm' r hr') (fun c hc1 hc2 => ?_)
          by_cases e : c = k
          · subst e; exact hrow
          · exact hw3 c (by omega) hc2
        | succ n ihn =>
          intro m N3 hm hF3 hw3 hrow
          have hp3 : phK S i (rcL S i) N3 := fun c hc => (agr_nI hF3 rfl).trans (hp c hc)
          have ht3 : ftK b S i k N3 := fun m' hm' r hr' => by rw [agr_nI hF3 rfl]; exact ht k (by omega) m' hm' r hr'
          refine v102_186 (brK_f (by rw [show (16 : Int32) = nI 16 from rfl, nI_leI (by decide) (by omega)]; omega) (c105 (by omega) (by omega) (by rw [ix_n (by omega)]; omega) hp3 ht3 (hw3 (k + 1) (by omega) (by omega)) ⟨rfl, c104 (by omega) (by omega) (by omega) ⟨rfl, ?_⟩⟩))
          rw [nI_1]
          refine ihn (m + 1) _ (by omega) (agr_sL rfl hF3) (fun c hc1 hc2 m' hm' => ?_) (fun m' hm' => ?_)
          · rw [gL_o (by omega)]; exact hw3 c hc1 hc2 m' hm'
          · by_cases e : m' = m
            · subst e; exact gL_s ..
            · rw [gL_o (by omega)]; exact hrow m' (by omega)
      refine v102_178 (brK_f (by rw [nI_pred]; exact nI_pos (by omega)) ?_)
      rw [nI_pred]
      exact inner 16 0 N2 (by omega) (agr_r N2) (fun c hc1 hc2 => hw c hc1 hc2) (fun m' hm' => absurd hm' (by omega))
  -- C: one way where all is said
  have last : ∀ n m (N2 : M2) (u1 u3 u5 : Value), m + n = 16 → agr (fr [17, 48, 49, 50, 51, 52]) N N2 → gI N2 48 4 = nI (rcL S i) → phK S i (rcL S i) N2 → (∀ c, c < rcL S i → ftK b S i c N2) → (∀ m', m' < m → gL N2 52 (rcL S i * 16 + m') = 1) → WP (d + 1) 107 102 146 [.ref 48, u1, .ref 5, u3, .int (nI m), u5] [] 107 (FR b, N2) (rL f) := by
    intro n
    induction n with
    | zero =>
      intro m N2 u1 u3 u5 hm hF h48 hp ht hrow
      have : m = 16 := by omega
      subst this
      refine v102_146 (brK_t (by decide) ?_)
      rw [h48]
      refine back (rcL S i) N2 _ _ _ (Nat.le_refl _) hF h48 hp ht (fun c h1 h2 m' hm' => ?_)
      have : c = rcL S i := by omega
      subst this
      rw [hrow m' hm', Nat.sub_self]
      rfl
    | succ n ihn =>
      intro m N2 u1 u3 u5 hm hF h48 hp ht hrow
      refine v102_146 (brK_f (by rw [show (16 : Int32) = nI 16 from rfl, nI_leI (by decide) (by omega)]; omega) ?_)
      rw [h48]
      refine c104 (by omega) (by omega) (by omega) ⟨rfl, ?_⟩
      rw [nI_1]
      refine ihn (m + 1) _ _ _ _ (by omega) (agr_sL rfl hF) h48 hp ht (fun m' hm' => ?_)
      by_cases e : m' = m
      · subst e; exact gL_s ..
      · rw [gL_o (by omega)]; exact hrow m' (by omega)
  -- B: what fits
  have fits : ∀ n k (N2 : M2) (s : St) (u1 u5 : Value), k + n = rcL S i → agr (fr [17, 48, 49, 50, 51, 52]) N N2 → gI N2 48 4 = nI (rcL S i) → phK S i (rcL S i) N2 → HW S N2 49 s → s.2.1 = hgK S k → s.2.2.1 = laK S i k → s.2.2.2 = hrK S k → (∀ c, c < k → ftK b S i c N2) → WP (d + 1) 107 102 80 [.ref 48, u1, .ref 5, .ref 7, .int (nI k), u5] [] 107 (FR b, N2) (rL f) := by
    intro n
    induction n with
    | zero =>
      intro k N2 s u1 u5 hk hF h48 hp hs h1 h2 h3 ht
      have : k = rcL S i := by omega
      subst this
      refine v102_80 (brK_t (by rw [h48, i_le]; exact Int.le_refl _) ?_)
      exact last 16 0 N2 _ _ _ (by omega) hF h48 hp ht (fun m' hm' => absurd hm' (by omega))
    | succ n ihn =>
      intro k N2 s u1 u5 hk hF h48 hp hs h1 h2 h3 ht
      have inner : ∀ n m (N3 : M2) (s3 : St), m + n = 16 → agr (fr [17, 49, 51]) N2 N3 → HW S N3 49 s3 → s3.2.1 = hgK S k → s3.2.2.1 = laK S i k → s3.2.2.2 = hrK S k → (∀ j, j < k * 16 → gI N3 51 j = gI N2 51 j) → (∀ m', m' < m → ∀ r, r < 10 → bitV (gI N3 51 (k * 16 + m')) (nI r) = bI (rcB b S i k (nI m') (nI r))) → WP (d + 1) 107 102 92 [.ref 48, u1, .ref 5, .ref 7, .int (nI k), .int (nI m)] [] 107 (FR b, N3) (rL f) := by
        intro n
        induction n with
        | zero =>
          intro m N3 s3 hm hF3 hs3 g1 g2 g3 hlow hrow
          have : m = 16 := by omega
          subst this
          have hp3 : phK S i (rcL S i) N3 := fun c hc => (agr_nI hF3 rfl).trans (hp c hc)
          refine v102_92 (brK_t (by decide) (c15 (by omega) (by decide) (Or.inl rfl) ⟨rfl, ?_⟩))
          rw [at50 hp3 (by omega) h12, sF_eq]
          have hs4 : HW S (sI N3 49 2 (phB S i k)) 49 (s3.1, s3.2.1, phB S i k, s3.2.2.2) := by
            refine ⟨⟨?_, ?_, gI_s .., ?_, ?_⟩, ?_, ?_⟩
            · rw [gI_oj (by decide)]; exact hs3.1.1
            · rw [gI_oj (by decide)]; exact hs3.1.2.1
            · rw [gI_oj (by decide)]; exact hs3.1.2.2.2.1
            · rw [gI_oj (by decide)]; exact hs3.1.2.2.2.2
            · rw [gI_oj (by decide)]; exact hs3.2.1
            · rw [gI_oj (by decide)]; exact hs3.2.2
          refine c73 (S := S) (by omega) (by decide) rfl hs4 (fun N4 hN4 hs5 => ⟨rfl, ?_⟩)
          rw [nI_1]
          have hF4 : agr (fr [17, 49, 51]) N2 N4 := agr_t (agr_sI rfl hF3) (fr_s (by decide) hN4)
          have e51 : ∀ j, gI N4 51 j = gI N3 51 j := fun j => by rw [agr_nI hN4 rfl, gI_or (by decide)]
          refine ihn (k + 1) N4 _ _ _ (by omega) (agr_t hF (fr_s (by decide) hF4)) ((agr_nI hF4 rfl).trans h48) (fun c hc => (agr_nI hF4 rfl).trans (hp c hc)) hs5 ?_ rfl ?_ (fun c hc m' hm' r hr' => ?_)
          · show imn 9 (s3.2.1 + gI S 5 4) = hgK S (k + 1)
            rw [g1]; rfl
          · show md (s3.2.2.2 + 1) 24 = hrK S (k + 1)
            rw [g3]; rfl
          · rw [e51]
            by_cases e : c = k
            · subst e; exact hrow m' hm' r hr'
            · rw [hlow _ (by omega)]; exact ht c (by omega) m' hm' r hr'
        | succ n ihm =>
          intro m N3 s3 hm hF3 hs3 g1 g2 g3 hlow hrow
          have hp3 : phK S i (rcL S i) N3 := fun c hc => (agr_nI hF3 rfl).trans (hp c hc)
          have hA3 : agr (pC b) S N3 := agr_t hA (frr_pC (agr_t hF (fr_s (by decide) hF3)))
          refine v102_92 (brK_f (by rw [show (16 : Int32) = nI 16 from rfl, nI_leI (by decide) (by omega)]; omega) (c103 (S := S) (by omega) hI hA3 (by omega) (by omega) hp3 hs3 g1 g2 g3 (fun N4 hN4 hs4 ho hb => ⟨rfl, ?_⟩)))
          rw [nI_1]
          refine ihm (m + 1) N4 _ (by omega) (agr_t hF3 hN4) hs4 g1 g2 g3 (fun j hj => by rw [ho j (by omega)]; exact hlow j hj) (fun m' hm' => ?_)
          by_cases e : m' = m
          · subst e; exact hb
          · rw [ho _ (by omega)]; exact hrow m' (by omega)
      refine v102_80 (brK_f (by rw [h48, nI_leI (by omega) (by omega)]; omega) ?_)
      exact inner 16 0 N2 s (by omega) (agr_r N2) hs h1 h2 h3 (fun j hj => rfl) (fun m' hm' => absurd hm' (by omega))
  -- A: the phrase
  have begins : ∀ (N2 : M2) (u1 u5 : Value), agr (fr [17, 48, 49, 50, 51, 52]) N N2 → gI N2 48 4 = nI (rcL S i) → phK S i (rcL S i) N2 → WP d 107 68 0 [.ref 49, .ref 5] [] 107 (FR b, N2) (rV (fun N1 => N1.1 = FR b ∧ WP (d + 1) 107 102 80 [.ref 48, u1, .ref 5, .ref 7, .int 0, u5] [] 107 (FR b, N1.2) (rL f))) := by
    intro N2 u1 u5 hF h48 hp
    refine c68 (S := S) (by omega) (by decide) rfl (by decide) (agr_t hA (frr_pC hF)) (fun N3 hN3 hs3 => ⟨rfl, ?_⟩)
    exact fits (rcL S i) 0 N3 (s0 S) _ _ (by omega) (agr_t hF (fr_s (by decide) hN3)) ((agr_nI hN3 rfl).trans h48) (fun c hc => (agr_nI hN3 rfl).trans (hp c hc)) hs3 rfl rfl rfl (fun c hc => absurd hc (by omega))
  have l : ∀ m k (N2 : M2) (u4 u5 : Value), k + m = min (szS S i) 12 → phL S i m k = rcL S i → agr (fr [17, 48, 49, 50, 51, 52]) N N2 → gI N2 48 4 = nI k → phK S i k N2 → WP (d + 1) 107 102 5 [.ref 48, .ref (shC i), .ref 5, .ref 7, u4, u5] [] 107 (FR b, N2) (rL f) := by
    intro m
    induction m with
    | zero =>
      intro k N2 u4 u5 hm hL hF h48 hp
      have : k = rcL S i := hL
      subst this
      have e3 : gI N2 (shC i) 3 = nI (szS S i) := by rw [agr_nI (agr_t hA (frr_pC (b := b) hF)) (shf_k b i hi 3).1]; exact (n_ix _).symm
      refine v102_5 ?_
      rw [h48, e3]
      refine ⟨fun _ => begins N2 _ _ hF h48 hp, fun z => oK_i hk6.2.1 hk6.1 (brK_t ?_ (begins N2 _ _ hF h48 hp))⟩
      rw [show (12 : Int32) = nI 12 from rfl, nI_leI (by decide) (by omega)] at z
      rw [nI_leI (by omega) (by omega)]
      omega
    | succ m ih =>
      intro k N2 u4 u5 hm hL hF h48 hp
      have hA2 : agr (pC b) S N2 := agr_t hA (frr_pC hF)
      have e3 : gI N2 (shC i) 3 = nI (szS S i) := by rw [agr_nI hA2 (shf_k b i hi 3).1]; exact (n_ix _).symm
      have h60' : ix (gI N2 (shC i) 3) ≤ 60 := by rw [e3, ix_n (by omega)]; exact hz
      unfold phL at hL
      refine v102_5 ?_
      rw [h48, e3]
      refine brK_f (by rw [show (12 : Int32) = nI 12 from rfl, nI_leI (by decide) (by omega)]; omega) (oK_i hk6.2.1 hk6.1 (brK_f (by rw [nI_leI (by omega) (by omega)]; omega) (oK_i hk6.2.1 hk6.1 (c70 (by omega) hi h60' ⟨rfl, c78 (by omega) ⟨rfl, ?_⟩⟩))))
      rw [byV_a hA2 hi]
      refine brK_b (fun z => ?_) (fun z => ?_)
      · have z : isTh S i k = false := z
        rw [z] at hL
        have : k = rcL S i := hL
        subst this
        exact begins N2 _ _ hF h48 hp
      · have z : isTh S i k = true := z
        rw [z] at hL
        dsimp only
        rw [h48]
        refine oK_i hk6.2.1 hk6.1 (c70 (by omega) hi h60' ⟨rfl, iK_i (by rw [ix_n (by omega)]; omega) ?_⟩)
        rw [byV_a hA2 hi, ix_n (by omega)]
        dsimp only
        rw [h48, nI_1]
        refine ih (k + 1) _ _ _ (by omega) hL (agr_sI rfl (agr_sI rfl hF)) (gI_s ..) (fun c hc => ?_)
        rw [gI_or (by decide)]
        by_cases e : c = k
        · subst e; exact gI_s ..
        · rw [gI_oj e]; exact hp c (by omega)
  exact v102_0 (l (min (szS S i) 12) 0 _ _ _ (by omega) rfl (agr_sI rfl (agr_r N)) (gI_s ..) (fun c hc => absurd hc (by omega)))
end RECITE
