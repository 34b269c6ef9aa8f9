/-! PAIRS: STALL, SCHOOL, FEED, BODY, TRACE, FED -/
section PAIRS
variable {b : Bool} {M : M2}
theorem lt_n {v c : Int32} {n : Nat} (hc : c = nI n) (hn : n < 2147483648) (hv : ix v ≤ n) : (v < c ↔ ix v < n) ∧ (v = c ↔ ix v = n) := by
  have h1 := nI_toInt hn
  have h2 := ix_t v
  subst hc
  refine ⟨by rw [i_lt]; omega, by rw [i_eq]; omega⟩
/-- a stall added: the class's and the reference's rows -/
theorem INV_stall (hI : INV b M) {l p e : Int32} (hl : ix l < 65536) (hp : ix p < 100) (he : ix e < 10) (hc : ix (gI M 18 0) < 6) : INV b (sI (sI (sI (sI (sI (sI (sI (sI (sI M 19 (ix (gI M 18 0)) l) 20 (ix (gI M 18 0)) p) 21 (ix (gI M 18 0)) e) 18 0 (gI M 18 0 + 1)) 69 (ix (gI M 18 0)) l) 70 (ix (gI M 18 0)) p) 71 (ix (gI M 18 0)) e) 72 (ix (gI M 18 0)) 0) 67 2 (gI M 18 0 + 1)) := by
  obtain ⟨hS, hH, hV, hSc, hL, hC, hA, hSh, hT, hLw⟩ := id hI
  have A : ∀ q : Nat → Nat → Bool, (∀ j, q 19 j = false) → (∀ j, q 20 j = false) → (∀ j, q 21 j = false) → q 18 0 = false → (∀ j, q 69 j = false) → (∀ j, q 70 j = false) → (∀ j, q 71 j = false) → (∀ j, q 72 j = false) → q 67 2 = false → agr q M (sI (sI (sI (sI (sI (sI (sI (sI (sI M 19 (ix (gI M 18 0)) l) 20 (ix (gI M 18 0)) p) 21 (ix (gI M 18 0)) e) 18 0 (gI M 18 0 + 1)) 69 (ix (gI M 18 0)) l) 70 (ix (gI M 18 0)) p) 71 (ix (gI M 18 0)) e) 72 (ix (gI M 18 0)) 0) 67 2 (gI M 18 0 + 1)) :=
    fun q h1 h2 h3 h4 h5 h6 h7 h8 h9 => agr_sI h9 (agr_sI (h8 _) (agr_sI (h7 _) (agr_sI (h6 _) (agr_sI (h5 _) (agr_sI h4 (agr_sI (h3 _) (agr_sI (h2 _) (agr_sI (h1 _) (agr_r M)))))))))
  have hs := ix_succ (v := gI M 18 0) (by omega)
  refine ⟨StatW_a (A _ (fun _ => rfl) (fun _ => rfl) (fun _ => rfl) rfl (fun _ => rfl) (fun _ => rfl) (fun _ => rfl) (fun _ => rfl) rfl) hS, HimR_a (A _ (fun _ => rfl) (fun _ => rfl) (fun _ => rfl) rfl (fun _ => rfl) (fun _ => rfl) (fun _ => rfl) (fun _ => rfl) rfl) hH, ?_, SchR_a (A _ (fun _ => rfl) (fun _ => rfl) (fun _ => rfl) rfl (fun _ => rfl) (fun _ => rfl) (fun _ => rfl) (fun _ => rfl) rfl) hSc, LedR_a (A _ (fun _ => rfl) (fun _ => rfl) (fun _ => rfl) rfl (fun _ => rfl) (fun _ => rfl) (fun _ => rfl) (fun _ => rfl) rfl) hL, ChgR_a (A _ (fun _ => rfl) (fun _ => rfl) (fun _ => rfl) rfl (fun _ => rfl) (fun _ => rfl) (fun _ => rfl) (fun _ => rfl) rfl) hC, ActR_a (A _ (fun _ => rfl) (fun _ => rfl) (fun _ => rfl) rfl (fun _ => rfl) (fun _ => rfl) (fun _ => rfl) (fun _ => rfl) rfl) hA, ShfR_a (A _ (fun _ => rfl) (fun _ => rfl) (fun _ => rfl) rfl (fun _ => rfl) (fun _ => rfl) (fun _ => rfl) (fun _ => rfl) rfl) hSh, TapR_a (A _ (fun _ => rfl) (fun _ => rfl) (fun _ => rfl) rfl (fun _ => rfl) (fun _ => rfl) (fun _ => rfl) (fun _ => rfl) rfl) hT, LawR_a (A _ (fun _ => by cases b <;> rfl) (fun _ => by cases b <;> rfl) (fun _ => by cases b <;> rfl) (by cases b <;> rfl) (fun _ => by cases b <;> rfl) (fun _ => by cases b <;> rfl) (fun _ => by cases b <;> rfl) (fun _ => by cases b <;> rfl) (by cases b <;> rfl)) hLw⟩
  refine ⟨?_, ?_, ?_⟩
  · simp [gI_if]
    omega
  · simp [gI_if]
  · intro j hj
    have q := hV.2.2 j hj
    by_cases hjc : j = ix (gI M 18 0)
    · subst hjc
      simp [gI_if, hs]
      exact ⟨⟨hl, hp, he, fun h => absurd h (by omega)⟩, (q.1.2.2.2 (Nat.le_refl _)).symm⟩
    · simp [gI_if, hs, hjc]
      exact ⟨⟨q.1.1, q.1.2.1, q.1.2.2.1, fun h => q.1.2.2.2 (by omega)⟩, q.2.1, q.2.2.1, q.2.2.2.1, q.2.2.2.2⟩
theorem P_stall (hI : INV b M) {x1 x2 : Int32} : PAIR b M 13 179 [.ref 4, .int x1, .int x2] [.ref 67, .int x1, .int x2] := by
  obtain ⟨hS, hH, hV, hSc, hL, hC, hA, hSh, hT, hLw⟩ := id hI
  intro d hd f k
  obtain ⟨d, rfl⟩ := ex1 (e := 199) hd
  refine v13_0 (c14 (by omega) hS (by decide) ⟨rfl, brK_b (fun h => ?_) (fun h => c14 (by omega) hS (by decide) ⟨rfl, brK_b (fun h2 => ?_) (fun h2 => ?_)⟩)⟩)
  · exact k _ M rfl (fun f2 k2 => v179_0 (c180n 65535 (by omega) rfl (by decide) ⟨rfl, brK_b (fun _ => k2 M hI rfl) (fun q => ff h q)⟩))
  · exact k _ M rfl (fun f2 k2 => v179_0 (c180n 65535 (by omega) rfl (by decide) ⟨rfl, brK_b (fun q => ff q h) (fun _ => c180n 99 (by omega) rfl (by decide) ⟨rfl, brK_b (fun _ => k2 M hI rfl) (fun q => ff h2 q)⟩)⟩))
  · have hl := lt_n (v := gI M 18 0) (c := 6) (n := 6) rfl (by decide) hV.1
    obtain ⟨d, rfl⟩ := ex1 (e := 198) (d := d) (by omega)
    refine v16_0 ⟨fun h3 => ?_, fun h3 => ?_⟩
    · have h4 := hl.1.mp h3
      refine iK_i h4 (iK_i h4 (iK_i h4 ⟨rfl, k _ _ (by funext j; rfl) (fun f2 k2 => v179_0 (c180n 65535 (by omega) rfl (by decide) ⟨rfl, brK_b (fun q => ff q h) (fun _ => c180n 99 (by omega) rfl (by decide) ⟨rfl, brK_b (fun q => ff q h2) (fun _ => brK_f (fun q => ?_) (v181_0 ?_))⟩)⟩))⟩))
      · have q1 : gI M 67 2 = 6 := q
        rw [hV.2.1] at q1
        have := hl.2.mp q1
        omega
      · have e : gI (sI (sI (sI (sI M 19 (ix (gI M 18 0)) x1) 20 (ix (gI M 18 0)) x2) 21 (ix (gI M 18 0)) 0) 18 0 (gI M 18 0 + 1)) 67 2 = gI M 18 0 := hV.2.1
        rw [e]
        exact iK_i h4 (iK_i h4 (iK_i h4 (iK_i h4 ⟨rfl, k2 _ (INV_stall hI (rg_tt h) (rg_tt h2) (by decide) h4) (by funext j; rfl)⟩)))
    · refine ⟨rfl, k _ M rfl (fun f2 k2 => v179_0 (c180n 65535 (by omega) rfl (by decide) ⟨rfl, brK_b (fun q => ff q h) (fun _ => c180n 99 (by omega) rfl (by decide) ⟨rfl, brK_b (fun q => ff q h2) (fun _ => brK_t ?_ (k2 M hI rfl))⟩)⟩))⟩
      rw [hV.2.1]
      have := mt hl.1.mpr h3
      exact hl.2.mpr (by have := hV.1; omega)
end PAIRS
