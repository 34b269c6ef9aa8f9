section PAIRS
variable {b : Bool} {M : M2}
theorem c281 {d : Nat} {N : M2} {f : Int32 → Mm → Prop} {v : Int32} (hd : 2 ≤ d) (hc : 0 ≤ (gI N 67 57).toInt) (k : f (bI (rg v (ix (gI N 67 57)))) (FR b, N)) : WP d 107 281 0 [.ref 67, .int v] [] 107 (FR b, N) (rI f) := by
  obtain ⟨d, rfl⟩ := ex1 (e := 1) hd
  exact v281_0 (c180 (by omega) ⟨rfl, iK_b (by rw [inV_c hc]; exact k)⟩)
theorem c162 {d : Nat} {N : M2} {f : Int32 → Mm → Prop} {v : Int32} (hd : 1 ≤ d) (hc : 0 ≤ (gI N 40 0).toInt) (k : f (bI (rg v (ix (gI N 40 0)))) (FR b, N)) : WP d 107 162 0 [.ref 40, .int v] [] 107 (FR b, N) (rI f) := by
  obtain ⟨d, rfl⟩ := ex1 hd
  exact v162_0 (brK_rc hc (fun h => by rw [h] at k; exact k) (fun h => by rw [h] at k; exact k))
theorem shC_inj : ∀ i, i < 6 → ∀ a, a < 6 → (shC i = shC a ↔ i = a) ∧ shC i ≠ shC a + 1 := by decide
/-- a body or nothing on a shelf -/
def kpC (M : M2) (i : Nat) (x : Int32) : M2 := sI (sI M (shC i) 0 (bif decide (x = -1) then 0 else 1)) (shC i) 1 x
theorem INV_shf (hI : INV b M) {M' : M2} (ha : ∀ q : Nat → Nat → Bool, (∀ i, i < 6 → ∀ j, q (shC i) j = false) → (∀ i, i < 6 → ∀ j, q (shC i + 1) j = false) → (∀ j, q 103 j = false) → (∀ j, q 104 j = false) → (∀ j, q 105 j = false) → (∀ j, q 106 j = false) → agr q M M') (hS' : ShfR M' M') : INV b M' := by
  obtain ⟨hS, hH, hV, hSc, hL, hC, hA, hSh, hT, hLw⟩ := id hI
  have z : ∀ (q : Nat → Nat → Bool), (∀ j, q 55 j = false) → (∀ j, q 56 j = false) → (∀ j, q 57 j = false) → (∀ j, q 58 j = false) → (∀ j, q 59 j = false) → (∀ j, q 60 j = false) → (∀ j, q 61 j = false) → (∀ j, q 62 j = false) → (∀ j, q 63 j = false) → (∀ j, q 64 j = false) → (∀ j, q 65 j = false) → (∀ j, q 66 j = false) → (∀ j, q 103 j = false) → (∀ j, q 104 j = false) → (∀ j, q 105 j = false) → (∀ j, q 106 j = false) → agr q M M' := by
    intro q a0 a1 a2 a3 a4 a5 a6 a7 a8 a9 aa ab h3 h4 h5 h6
    refine ha q (fun i hi j => ?_) (fun i hi j => ?_) h3 h4 h5 h6
    · have : i = 0 ∨ i = 1 ∨ i = 2 ∨ i = 3 ∨ i = 4 ∨ i = 5 := by omega
      rcases this with h | h | h | h | h | h <;> subst h
      · exact a0 j
      · exact a2 j
      · exact a4 j
      · exact a6 j
      · exact a8 j
      · exact aa j
    · have : i = 0 ∨ i = 1 ∨ i = 2 ∨ i = 3 ∨ i = 4 ∨ i = 5 := by omega
      rcases this with h | h | h | h | h | h <;> subst h
      · exact a1 j
      · exact a3 j
      · exact a5 j
      · exact a7 j
      · exact a9 j
      · exact ab j
  have y : ∀ (q : Nat → Nat → Bool), (∀ r, (55 ≤ r ∧ r ≤ 66) ∨ (103 ≤ r ∧ r ≤ 106) → ∀ j, q r j = false) → agr q M M' := fun q h => z q (h 55 (by omega)) (h 56 (by omega)) (h 57 (by omega)) (h 58 (by omega)) (h 59 (by omega)) (h 60 (by omega)) (h 61 (by omega)) (h 62 (by omega)) (h 63 (by omega)) (h 64 (by omega)) (h 65 (by omega)) (h 66 (by omega)) (h 103 (by omega)) (h 104 (by omega)) (h 105 (by omega)) (h 106 (by omega))
  have w : ∀ r, (55 ≤ r ∧ r ≤ 66) ∨ (103 ≤ r ∧ r ≤ 106) → r = 55 ∨ r = 56 ∨ r = 57 ∨ r = 58 ∨ r = 59 ∨ r = 60 ∨ r = 61 ∨ r = 62 ∨ r = 63 ∨ r = 64 ∨ r = 65 ∨ r = 66 ∨ r = 103 ∨ r = 104 ∨ r = 105 ∨ r = 106 := by omega
  refine ⟨StatW_a (y _ ?_) hS, HimR_a (y _ ?_) hH, VilR_a (y _ ?_) hV, SchR_a (y _ ?_) hSc, LedR_a (y _ ?_) hL, ChgR_a (y _ ?_) hC, ActR_a (y _ ?_) hA, hS', TapR_a (y _ ?_) hT, LawR_a (y _ ?_) hLw⟩
  all_goals intro r hr j
  all_goals rcases w r hr with h | h | h | h | h | h | h | h | h | h | h | h | h | h | h | h <;> subst h <;> cases b <;> rfl
theorem kpC_o {i : Nat} (hi : i < 6) {x : Int32} {a j : Nat} (ha : a < 6) (hne : a ≠ i) : gI (kpC M i x) (shC a) j = gI M (shC a) j := by
  have h := (shC_inj a ha i hi).1
  unfold kpC
  rw [gI_or (fun q => hne (h.mp q)), gI_or (fun q => hne (h.mp q))]
theorem INV_keep (hI : INV b M) {i : Nat} (hi : i < 6) {x : Int32} (hx : x = -1 ∨ ix x < ix (gI M 40 0)) : INV b (sI (kpC M i x) 103 i x) := by
  have hSh := hI.2.2.2.2.2.2.2.1
  refine INV_shf hI ?_ ?_
  · intro q h0 h1 h3 h4 h5 h6
    exact agr_sI (h3 _) (agr_sI (h0 i hi _) (agr_sI (h0 i hi _) (agr_r M)))
  · intro a ha
    have e40 : gI (sI (kpC M i x) 103 i x) 40 0 = gI M 40 0 := by
      have : ∀ i, i < 6 → (40 : Nat) ≠ shC i := by decide
      rw [gI_or (by decide)]
      unfold kpC
      rw [gI_or (this i hi), gI_or (this i hi)]
    have n103 : ∀ i, i < 6 → shC i ≠ 103 ∧ 103 ≠ shC i := by decide
    by_cases hai : a = i
    · subst hai
      have e0 : gI (sI (kpC M a x) 103 a x) (shC a) 0 = bif decide (x = -1) then 0 else 1 := by
        rw [gI_or (n103 a ha).1]
        unfold kpC
        rw [gI_oj (by decide), gI_s]
      have e1 : gI (sI (kpC M a x) 103 a x) (shC a) 1 = x := by
        rw [gI_or (n103 a ha).1]
        unfold kpC
        rw [gI_s]
      unfold ShfR1
      rw [e0, e1, e40, gI_s]
      rcases hx with h | h
      · subst h
        exact Or.inl ⟨rfl, rfl⟩
      · have hn : ¬ x = -1 := by
          intro q
          subst q
          have : ix (gI M 40 0) ≤ 50 := hI.2.2.2.2.2.2.1.1
          rw [show ix (-1) = 4294967295 from rfl] at h
          omega
        rw [decide_eq_false hn]
        exact Or.inr (Or.inl ⟨rfl, rfl, h⟩)
    · have e : ∀ j, gI (sI (kpC M i x) 103 i x) (shC a) j = gI M (shC a) j := by
        intro j
        rw [gI_or (n103 a ha).1]
        exact kpC_o hi ha hai
      have e3 : gI (sI (kpC M i x) 103 i x) 103 a = gI M 103 a := by
        rw [gI_oj hai]
        unfold kpC
        rw [gI_or (n103 i hi).2, gI_or (n103 i hi).2]
      have e4 : gI (sI (kpC M i x) 103 i x) 104 a = gI M 104 a := by
        have : ∀ i, i < 6 → (104 : Nat) ≠ shC i := by decide
        rw [gI_or (by decide)]
        unfold kpC
        rw [gI_or (this i hi), gI_or (this i hi)]
      have eL : ∀ r j, gL (sI (kpC M i x) 103 i x) r j = gL M r j := fun r j => rfl
      unfold ShfR1
      simp only [e, e3, e4, e40, eL]
      exact hSh a ha
end PAIRS
