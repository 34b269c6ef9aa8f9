section PAIRS
variable {b : Bool} {M : M2}
theorem INV_row (hI : INV b M) {s : Nat} (hs : s < 6) {o n : Int32} (ho : ix o < 5) (hn : ix n ≤ 60) : INV b (clr (sI (sI (rowM M s o n) 103 s (-2 - o)) 104 s n) 105 (60 * s) 60) := by
  have hSh := hI.2.2.2.2.2.2.2.1
  refine INV_shf hI ?_ ?_
  · intro q h0 h1 h3 h4 h5 h6
    exact agr_clr h5 (agr_sI (h4 _) (agr_sI (h3 _) (agr_clr (h1 s hs) (agr_sI (h0 s hs _) (agr_sI (h0 s hs _) (agr_sI (h0 s hs _) (agr_r M)))))))
  · intro a ha
    have n103 : ∀ i, i < 6 → shC i ≠ 103 ∧ 103 ≠ shC i ∧ shC i ≠ 104 ∧ 104 ≠ shC i ∧ 40 ≠ shC i ∧ shC i + 1 ≠ 105 ∧ 105 ≠ shC i + 1 := by decide
    have m := n103 s hs
    have m' := n103 a ha
    have hinj : ∀ i, i < 6 → ∀ a, a < 6 → (shC i + 1 = shC a + 1 ↔ i = a) := by decide
    by_cases hai : a = s
    · subst hai
      refine Or.inr (Or.inr ⟨?_, ?_, ?_, ?_, ?_, fun k hk => ?_⟩)
      · show gI (sI (sI (sI (sI (sI M (shC a) 0 2) (shC a) 2 o) (shC a) 3 n) 103 a (-2 - o)) 104 a n) (shC a) 0 = 2
        rw [gI_or m.2.2.1, gI_or m.1, gI_oj (by decide), gI_oj (by decide), gI_s]
      · show gI (sI (sI (sI (sI (sI M (shC a) 0 2) (shC a) 2 o) (shC a) 3 n) 103 a (-2 - o)) 104 a n) 103 a = -2 - gI (sI (sI (sI (sI (sI M (shC a) 0 2) (shC a) 2 o) (shC a) 3 n) 103 a (-2 - o)) 104 a n) (shC a) 2
        rw [gI_or (a := 103) (r := 104) (by decide), gI_s, gI_or m.2.2.1, gI_or m.1, gI_oj (by decide), gI_s]
      · show ix (gI (sI (sI (sI (sI (sI M (shC a) 0 2) (shC a) 2 o) (shC a) 3 n) 103 a (-2 - o)) 104 a n) (shC a) 2) < 5
        rw [gI_or m.2.2.1, gI_or m.1, gI_oj (by decide), gI_s]; exact ho
      · show ix (gI (sI (sI (sI (sI (sI M (shC a) 0 2) (shC a) 2 o) (shC a) 3 n) 103 a (-2 - o)) 104 a n) (shC a) 3) ≤ 60
        rw [gI_or m.2.2.1, gI_or m.1, gI_s]; exact hn
      · show gI (sI (sI (sI (sI (sI M (shC a) 0 2) (shC a) 2 o) (shC a) 3 n) 103 a (-2 - o)) 104 a n) 104 a = gI (sI (sI (sI (sI (sI M (shC a) 0 2) (shC a) 2 o) (shC a) 3 n) 103 a (-2 - o)) 104 a n) (shC a) 3
        rw [gI_s, gI_or m.2.2.1, gI_or m.1, gI_s]
      · rw [gL_clr, if_pos ⟨rfl, by omega, by omega⟩, gL_clr, if_neg (fun q => m.2.2.2.2.2.1 q.1)]
        show 0 = gL (clr (sI (sI (sI M (shC a) 0 2) (shC a) 2 o) (shC a) 3 n) (shC a + 1) 0 60) (shC a + 1) k
        rw [gL_clr, if_pos ⟨rfl, by omega, by omega⟩]
    · have hne := (shC_inj a ha s hs).1
      have e : ∀ j, gI (clr (sI (sI (rowM M s o n) 103 s (-2 - o)) 104 s n) 105 (60 * s) 60) (shC a) j = gI M (shC a) j := by
        intro j
        show gI (sI (sI (sI (sI (sI M (shC s) 0 2) (shC s) 2 o) (shC s) 3 n) 103 s (-2 - o)) 104 s n) (shC a) j = _
        rw [gI_or m'.2.2.1, gI_or m'.1, gI_or (fun q => hai (hne.mp q)), gI_or (fun q => hai (hne.mp q)), gI_or (fun q => hai (hne.mp q))]
      have e3 : gI (clr (sI (sI (rowM M s o n) 103 s (-2 - o)) 104 s n) 105 (60 * s) 60) 103 a = gI M 103 a := by
        show gI (sI (sI (sI (sI (sI M (shC s) 0 2) (shC s) 2 o) (shC s) 3 n) 103 s (-2 - o)) 104 s n) 103 a = _
        rw [gI_or (by decide), gI_oj hai, gI_or m.2.1, gI_or m.2.1, gI_or m.2.1]
      have e4 : gI (clr (sI (sI (rowM M s o n) 103 s (-2 - o)) 104 s n) 105 (60 * s) 60) 104 a = gI M 104 a := by
        show gI (sI (sI (sI (sI (sI M (shC s) 0 2) (shC s) 2 o) (shC s) 3 n) 103 s (-2 - o)) 104 s n) 104 a = _
        rw [gI_oj hai, gI_or (by decide), gI_or m.2.2.2.1, gI_or m.2.2.2.1, gI_or m.2.2.2.1]
      have e40 : gI (clr (sI (sI (rowM M s o n) 103 s (-2 - o)) 104 s n) 105 (60 * s) 60) 40 0 = gI M 40 0 := by
        show gI (sI (sI (sI (sI (sI M (shC s) 0 2) (shC s) 2 o) (shC s) 3 n) 103 s (-2 - o)) 104 s n) 40 0 = _
        rw [gI_or (by decide), gI_or (by decide), gI_or m.2.2.2.2.1, gI_or m.2.2.2.2.1, gI_or m.2.2.2.2.1]
      have eL : ∀ k, k < 60 → gL (clr (sI (sI (rowM M s o n) 103 s (-2 - o)) 104 s n) 105 (60 * s) 60) 105 (60 * a + k) = gL M 105 (60 * a + k) := by
        intro k hk
        rw [gL_clr, if_neg (fun q => by have := q.2; omega)]
        show gL (clr (sI (sI (sI M (shC s) 0 2) (shC s) 2 o) (shC s) 3 n) (shC s + 1) 0 60) 105 (60 * a + k) = _
        rw [gL_clr, if_neg (fun q => m.2.2.2.2.2.2 q.1)]
        rfl
      have eK : ∀ k, gL (clr (sI (sI (rowM M s o n) 103 s (-2 - o)) 104 s n) 105 (60 * s) 60) (shC a + 1) k = gL M (shC a + 1) k := by
        intro k
        rw [gL_clr, if_neg (fun q => m'.2.2.2.2.2.1 q.1)]
        show gL (clr (sI (sI (sI M (shC s) 0 2) (shC s) 2 o) (shC s) 3 n) (shC s + 1) 0 60) (shC a + 1) k = _
        rw [gL_clr, if_neg (fun q => hai ((hinj a ha s hs).mp q.1))]
        rfl
      unfold ShfR1
      rw [e, e, e, e, e3, e4, e40]
      rcases hSh a ha with q | q | q
      · exact Or.inl q
      · exact Or.inr (Or.inl q)
      · exact Or.inr (Or.inr ⟨q.1, q.2.1, q.2.2.1, q.2.2.2.1, q.2.2.2.2.1, fun k hk => by rw [eL k hk, eK k]; exact q.2.2.2.2.2 k hk⟩)
end PAIRS
