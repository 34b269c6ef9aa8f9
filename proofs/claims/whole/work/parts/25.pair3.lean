section PAIRS
variable {b : Bool} {M : M2}
theorem INV_school (hI : INV b M) {l : Int32} (hl : ix l < 65536) (hc : ix (gI M 26 0) < 5) : INV b (sI (sI (sI (sI M 27 (ix (gI M 26 0)) l) 26 0 (gI M 26 0 + 1)) 73 (ix (gI M 26 0)) l) 67 7 (gI M 26 0 + 1)) := by
  obtain ⟨hS, hH, hV, hSc, hL, hC, hA, hSh, hT, hLw⟩ := id hI
  have A : ∀ q : Nat → Nat → Bool, (∀ j, q 27 j = false) → q 26 0 = false → (∀ j, q 73 j = false) → q 67 7 = false → agr q M (sI (sI (sI (sI M 27 (ix (gI M 26 0)) l) 26 0 (gI M 26 0 + 1)) 73 (ix (gI M 26 0)) l) 67 7 (gI M 26 0 + 1)) :=
    fun q h1 h2 h3 h4 => agr_sI h4 (agr_sI (h3 _) (agr_sI h2 (agr_sI (h1 _) (agr_r M))))
  have hs := ix_succ (v := gI M 26 0) (by omega)
  refine ⟨StatW_a (A _ (fun _ => rfl) rfl (fun _ => rfl) rfl) hS, HimR_a (A _ (fun _ => rfl) rfl (fun _ => rfl) rfl) hH, VilR_a (A _ (fun _ => rfl) rfl (fun _ => rfl) rfl) hV, ?_, LedR_a (A _ (fun _ => rfl) rfl (fun _ => rfl) rfl) hL, ChgR_a (A _ (fun _ => rfl) rfl (fun _ => rfl) rfl) hC, ActR_a (A _ (fun _ => rfl) rfl (fun _ => rfl) rfl) hA, ShfR_a (A _ (fun _ => rfl) rfl (fun _ => rfl) rfl) hSh, TapR_a (A _ (fun _ => rfl) rfl (fun _ => rfl) rfl) hT, LawR_a (A _ (fun _ => by cases b <;> rfl) (by cases b <;> rfl) (fun _ => by cases b <;> rfl) (by cases b <;> rfl)) hLw⟩
  refine ⟨?_, ?_, ?_⟩
  · simp [gI_if]
    omega
  · simp [gI_if]
  · intro j hj
    have q := hSc.2.2 j hj
    by_cases hjc : j = ix (gI M 26 0)
    · subst hjc
      simp [gI_if]
      exact hl
    · simp [gI_if, hjc]
      exact ⟨q.1, q.2⟩
theorem P_school (hI : INV b M) {x1 : Int32} : PAIR b M 22 184 [.ref 4, .int x1] [.ref 67, .int x1] := by
  obtain ⟨hS, hH, hV, hSc, hL, hC, hA, hSh, hT, hLw⟩ := id hI
  intro d hd f k
  obtain ⟨d, rfl⟩ := ex1 (e := 199) hd
  refine v22_0 (c14 (by omega) hS (by decide) ⟨rfl, brK_b (fun h => ?_) (fun h => ?_)⟩)
  · exact k _ M rfl (fun f2 k2 => v184_0 (c180n 65535 (by omega) rfl (by decide) ⟨rfl, brK_b (fun _ => k2 M hI rfl) (fun q => ff h q)⟩))
  · have hl := lt_n (v := gI M 26 0) (c := 5) (n := 5) rfl (by decide) hSc.1
    obtain ⟨d, rfl⟩ := ex1 (e := 198) (d := d) (by omega)
    refine v23_0 ⟨fun h3 => ?_, fun h3 => ?_⟩
    · have h4 := hl.1.mp h3
      refine iK_i h4 ⟨rfl, k _ _ (by funext j; rfl) (fun f2 k2 => v184_0 (c180n 65535 (by omega) rfl (by decide) ⟨rfl, brK_b (fun q => ff q h) (fun _ => brK_f (fun q => ?_) ?_)⟩))⟩
      · have q1 : gI M 67 7 = 5 := q
        rw [hSc.2.1] at q1
        have := hl.2.mp q1
        omega
      · have e : gI (sI (sI M 27 (ix (gI M 26 0)) x1) 26 0 (gI M 26 0 + 1)) 67 7 = gI M 26 0 := hSc.2.1
        dsimp only
        rw [e]
        exact iK_i h4 (k2 _ (INV_school hI (rg_tt h) h4) (by funext j; rfl))
    · refine ⟨rfl, k _ M rfl (fun f2 k2 => v184_0 (c180n 65535 (by omega) rfl (by decide) ⟨rfl, brK_b (fun q => ff q h) (fun _ => brK_t ?_ (k2 M hI rfl))⟩))⟩
      rw [hSc.2.1]
      have := mt hl.1.mpr h3
      exact hl.2.mpr (by have := hSc.1; omega)
theorem INV_feed (hI : INV b M) {l : Int32} (hl : ix l < 256) (hc : ix (gI M 7 0) < 120) : INV b (sI (sI (sI (sI M 8 (ix (gI M 7 0)) l) 7 0 (gI M 7 0 + 1)) 78 (ix (gI M 7 0)) l.toInt8.toInt32) 67 16 (gI M 7 0 + 1)) := by
  obtain ⟨hS, hH, hV, hSc, hL, hC, hA, hSh, hT, hLw⟩ := id hI
  have A : ∀ q : Nat → Nat → Bool, (∀ j, q 8 j = false) → q 7 0 = false → (∀ j, q 78 j = false) → q 67 16 = false → agr q M (sI (sI (sI (sI M 8 (ix (gI M 7 0)) l) 7 0 (gI M 7 0 + 1)) 78 (ix (gI M 7 0)) l.toInt8.toInt32) 67 16 (gI M 7 0 + 1)) :=
    fun q h1 h2 h3 h4 => agr_sI h4 (agr_sI (h3 _) (agr_sI h2 (agr_sI (h1 _) (agr_r M))))
  have hs := ix_succ (v := gI M 7 0) (by omega)
  refine ⟨StatW_a (A _ (fun _ => rfl) rfl (fun _ => rfl) rfl) hS, HimR_a (A _ (fun _ => rfl) rfl (fun _ => rfl) rfl) hH, VilR_a (A _ (fun _ => rfl) rfl (fun _ => rfl) rfl) hV, SchR_a (A _ (fun _ => rfl) rfl (fun _ => rfl) rfl) hSc, LedR_a (A _ (fun _ => rfl) rfl (fun _ => rfl) rfl) hL, ChgR_a (A _ (fun _ => rfl) rfl (fun _ => rfl) rfl) hC, ActR_a (A _ (fun _ => rfl) rfl (fun _ => rfl) rfl) hA, ShfR_a (A _ (fun _ => rfl) rfl (fun _ => rfl) rfl) hSh, ?_, LawR_a (A _ (fun _ => by cases b <;> rfl) (by cases b <;> rfl) (fun _ => by cases b <;> rfl) (by cases b <;> rfl)) hLw⟩
  refine ⟨?_, ?_, ?_⟩
  · simp [gI_if]
    omega
  · simp [gI_if]
  · intro j hj
    have q := hT.2.2 j hj
    by_cases hjc : j = ix (gI M 7 0)
    · subst hjc
      simp [gI_if]
      exact hl
    · simp [gI_if, hjc]
      exact ⟨q.1, q.2⟩
theorem byte_byte (v : Int32) : v.toInt8.toInt32.toInt8.toInt32 = v.toInt8.toInt32 := by rw [Int8.toInt8_toInt32]
theorem P_feed (hI : INV b M) {x1 : Int32} : PAIR b M 36 197 [.ref 4, .int x1] [.ref 67, .int x1] := by
  obtain ⟨hS, hH, hV, hSc, hL, hC, hA, hSh, hT, hLw⟩ := id hI
  intro d hd f k
  obtain ⟨d, rfl⟩ := ex1 (e := 199) hd
  refine v36_0 (brK_ri (n := 255) rfl (by decide) (fun h => ?_) (fun h => ?_))
  · exact k _ M rfl (fun f2 k2 => v197_0 (c180n 255 (by omega) rfl (by decide) ⟨rfl, brK_b (fun _ => k2 M hI rfl) (fun q => ff h q)⟩))
  · have hl := lt_n (v := gI M 7 0) (c := 120) (n := 120) rfl (by decide) hT.1
    obtain ⟨d, rfl⟩ := ex1 (e := 198) (d := d) (by omega)
    refine v37_0 ⟨fun h3 => ?_, fun h3 => ?_⟩
    · have h4 := hl.1.mp h3
      refine iK_i h4 ⟨rfl, k _ _ (by funext j; rfl) (fun f2 k2 => v197_0 (c180n 255 (by omega) rfl (by decide) ⟨rfl, brK_b (fun q => ff q h) (fun _ => brK_f (fun q => ?_) ?_)⟩))⟩
      · have q1 : gI M 67 16 = 120 := q
        rw [hT.2.1] at q1
        have := hl.2.mp q1
        omega
      · have e : gI (sI (sI M 8 (ix (gI M 7 0)) x1) 7 0 (gI M 7 0 + 1)) 67 16 = gI M 7 0 := hT.2.1
        dsimp only
        rw [e, byte_byte]
        exact iK_i h4 (k2 _ (INV_feed hI (rg_tt h) h4) (by funext j; rfl))
    · refine ⟨rfl, k _ M rfl (fun f2 k2 => v197_0 (c180n 255 (by omega) rfl (by decide) ⟨rfl, brK_b (fun q => ff q h) (fun _ => brK_t ?_ (k2 M hI rfl))⟩))⟩
      rw [hT.2.1]
      have := mt hl.1.mpr h3
      exact hl.2.mpr (by have := hT.1; omega)
theorem INV_body (hI : INV b M) {l : Int32} (hl : ix l < 8) (hc : ix (gI M 40 0) < 50) : INV b (sI (sI (sI (sI M 41 (ix (gI M 40 0)) l) 40 0 (gI M 40 0 + 1)) 101 (ix (gI M 40 0)) l) 67 57 (gI M 40 0 + 1)) := by
  obtain ⟨hS, hH, hV, hSc, hL, hC, hA, hSh, hT, hLw⟩ := id hI
  have A : ∀ q : Nat → Nat → Bool, (∀ j, q 41 j = false) → q 40 0 = false → (∀ j, q 101 j = false) → q 67 57 = false → agr q M (sI (sI (sI (sI M 41 (ix (gI M 40 0)) l) 40 0 (gI M 40 0 + 1)) 101 (ix (gI M 40 0)) l) 67 57 (gI M 40 0 + 1)) :=
    fun q h1 h2 h3 h4 => agr_sI h4 (agr_sI (h3 _) (agr_sI h2 (agr_sI (h1 _) (agr_r M))))
  have hs := ix_succ (v := gI M 40 0) (by omega)
  refine ⟨StatW_a (A _ (fun _ => rfl) rfl (fun _ => rfl) rfl) hS, HimR_a (A _ (fun _ => rfl) rfl (fun _ => rfl) rfl) hH, VilR_a (A _ (fun _ => rfl) rfl (fun _ => rfl) rfl) hV, SchR_a (A _ (fun _ => rfl) rfl (fun _ => rfl) rfl) hSc, LedR_a (A _ (fun _ => rfl) rfl (fun _ => rfl) rfl) hL, ChgR_a (A _ (fun _ => rfl) rfl (fun _ => rfl) rfl) hC, ?_, ?_, TapR_a (A _ (fun _ => rfl) rfl (fun _ => rfl) rfl) hT, LawR_a (A _ (fun _ => by cases b <;> rfl) (by cases b <;> rfl) (fun _ => by cases b <;> rfl) (by cases b <;> rfl)) hLw⟩
  · refine ⟨?_, ?_, ?_, hA.2.2.2.1, hA.2.2.2.2.1, hA.2.2.2.2.2⟩
    · simp [gI_if]
      omega
    · simp [gI_if]
    · intro j hj
      have q := hA.2.2.1 j hj
      by_cases hjc : j = ix (gI M 40 0)
      · subst hjc
        simp [gI_if]
        exact hl
      · simp [gI_if, hjc]
        exact ⟨q.1, q.2⟩
  · intro i hi
    have a : agr (fun r j => pShf r j && !Nat.beq r 40) M (sI (sI (sI (sI M 41 (ix (gI M 40 0)) l) 40 0 (gI M 40 0 + 1)) 101 (ix (gI M 40 0)) l) 67 57 (gI M 40 0 + 1)) := A _ (fun _ => rfl) rfl (fun _ => rfl) rfl
    have hb : ∀ j, (pShf (shC i) j && !Nat.beq (shC i) 40) = true ∧ (pShf (shC i + 1) j && !Nat.beq (shC i + 1) 40) = true := by
      intro j
      have h2 := pShf_s i hi j
      have h3 : Nat.beq (shC i) 40 = false ∧ Nat.beq (shC i + 1) 40 = false := (show ∀ i, i < 6 → Nat.beq (shC i) 40 = false ∧ Nat.beq (shC i + 1) 40 = false by decide) i hi
      rw [h2.1, h2.2, h3.1, h3.2]
      exact ⟨rfl, rfl⟩
    have e0 : ∀ j, gI (sI (sI (sI (sI M 41 (ix (gI M 40 0)) l) 40 0 (gI M 40 0 + 1)) 101 (ix (gI M 40 0)) l) 67 57 (gI M 40 0 + 1)) (shC i) j = gI M (shC i) j := fun j => (a _ j (hb j).1).1
    unfold ShfR1
    simp only [e0]
    rcases hSh i hi with h | h | h
    · exact Or.inl h
    · refine Or.inr (Or.inl ⟨h.1, h.2.1, ?_⟩)
      have e : gI (sI (sI (sI (sI M 41 (ix (gI M 40 0)) l) 40 0 (gI M 40 0 + 1)) 101 (ix (gI M 40 0)) l) 67 57 (gI M 40 0 + 1)) 40 0 = gI M 40 0 + 1 := rfl
      rw [e, hs]
      have := h.2.2
      omega
    · exact Or.inr (Or.inr h)
theorem P_body (hI : INV b M) {x1 : Int32} : PAIR b M 158 279 [.ref 4, .int x1] [.ref 67, .int x1] := by
  obtain ⟨hS, hH, hV, hSc, hL, hC, hA, hSh, hT, hLw⟩ := id hI
  intro d hd f k
  obtain ⟨d, rfl⟩ := ex1 (e := 199) hd
  refine v158_0 (brK_rj (n := 8) rfl (by decide) (fun h => ?_) (fun h => ?_))
  · exact k _ M rfl (fun f2 k2 => v279_0 (c180n 7 (by omega) rfl (by decide) ⟨rfl, brK_b (fun _ => k2 M hI rfl) (fun q => ff h q)⟩))
  · have hl := lt_n (v := gI M 40 0) (c := 50) (n := 50) rfl (by decide) hA.1
    obtain ⟨d, rfl⟩ := ex1 (e := 198) (d := d) (by omega)
    refine v159_0 ⟨fun h3 => ?_, fun h3 => ?_⟩
    · have h4 := hl.1.mp h3
      refine iK_i h4 ⟨rfl, k _ _ (by funext j; rfl) (fun f2 k2 => v279_0 (c180n 7 (by omega) rfl (by decide) ⟨rfl, brK_b (fun q => ff q h) (fun _ => brK_f (fun q => ?_) ?_)⟩))⟩
      · have q1 : gI M 67 57 = 50 := q
        rw [hA.2.1] at q1
        have := hl.2.mp q1
        omega
      · have e : gI (sI (sI M 41 (ix (gI M 40 0)) x1) 40 0 (gI M 40 0 + 1)) 67 57 = gI M 40 0 := hA.2.1
        dsimp only
        rw [e]
        exact iK_i h4 (k2 _ (INV_body hI (rg_tt h) h4) (by funext j; rfl))
    · refine ⟨rfl, k _ M rfl (fun f2 k2 => v279_0 (c180n 7 (by omega) rfl (by decide) ⟨rfl, brK_b (fun q => ff q h) (fun _ => brK_t ?_ (k2 M hI rfl))⟩))⟩
      rw [hA.2.1]
      have := mt hl.1.mpr h3
      exact hl.2.mpr (by have := hA.1; omega)
theorem P_trace (hI : INV b M) {x1 : Int32} : PAIR b M 165 278 [.ref 4, .int x1] [.ref 67, .int x1] := by
  obtain ⟨hS, hH, hV, hSc, hL, hC, hA, hSh, hT, hLw⟩ := id hI
  have n1 := nn_of (n := 1000) (v := gI M 40 1) (by have := hA.2.2.2.1; omega) (by decide)
  have h59 := hA.2.2.2.2.1
  have hlt := ix_t x1
  intro d hd f k
  obtain ⟨d, rfl⟩ := ex1 (e := 199) hd
  refine v165_0 ⟨fun h => ?_, fun h => ⟨fun h2 => ?_, fun h2 => ⟨fun h3 => ?_, fun h3 => ?_⟩⟩⟩
  · exact k _ M rfl (fun f2 k2 => v278_0 (brK_t h (k2 M hI rfl)))
  · exact k _ M rfl (fun f2 k2 => v278_0 (brK_f h (brK_t (by rw [h59]; exact h2) (k2 M hI rfl))))
  · have h24 : ix x1 < 24 := by
      rw [i_lt, z_toInt] at h
      rw [i_lt, show (24 : Int32).toInt = 24 from rfl] at h3
      omega
    refine c15 (by omega) (by decide) (Or.inl rfl) ⟨rfl, k _ M rfl (fun f2 k2 => v278_0 (brK_f h (brK_f (by rw [h59]; exact h2) (brK_f (fun q => ?_) (iK_i h24 ?_)))))⟩
    · rw [i_le] at q; rw [i_lt] at h3; omega
    · rw [hA.2.2.2.2.2 _ h24]
      have e : atV M 42 x1 = gI M 42 (ix x1) := by
        unfold atV
        rw [rg_t.mpr (show ix x1 < ln 42 from h24)]
        rfl
      rw [← e]
      exact k2 M hI rfl
  · exact k _ M rfl (fun f2 k2 => v278_0 (brK_f h (brK_f (by rw [h59]; exact h2) (brK_t (i_nlt h3) (k2 M hI rfl)))))
end PAIRS
