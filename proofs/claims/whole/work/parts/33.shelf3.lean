section PAIRS
variable {b : Bool} {M : M2}
theorem ix_at {c : Int32} {n : Nat} {s i : Int32} (hc : ix c = n) (h : n * ix s + ix i < 4294967296) : ix (c * s + i) = n * ix s + ix i := by
  subst hc
  have e : ix (c * s + i) = (ix c * ix s % 4294967296 + ix i) % 4294967296 := by
    show (c.toBitVec * s.toBitVec + i.toBitVec).toNat = _
    rw [BitVec.toNat_add, BitVec.toNat_mul]
    rfl
  rw [e]
  rw [Nat.mod_eq_of_lt (show ix c * ix s < 4294967296 by omega), Nat.mod_eq_of_lt h]
theorem srt {v : Int32} (h : ix v < 5) : ¬ (-2 - v = -1) ∧ (-2 - v < 0) ∧ -2 - (-2 - v) = v := by
  obtain ⟨j, hj, rfl⟩ := nI_of_lt h
  have : j = 0 ∨ j = 1 ∨ j = 2 ∨ j = 3 ∨ j = 4 := by omega
  rcases this with h | h | h | h | h <;> subst h <;> decide
theorem c299n {d : Nat} {N : M2} {f : Int32 → Mm → Prop} {s i : Int32} (hd : 3 ≤ d) (h : rg s 6 = false) (k : f (-1) (FR b, N)) : WP d 107 299 0 [.ref 67, .int s, .int i] [] 107 (FR b, N) (rI f) := by
  obtain ⟨d, rfl⟩ := ex1 (e := 2) hd
  exact v299_0 (c183 (by omega) ⟨rfl, brK_b (fun _ => k) (fun q => ff h q)⟩)
theorem c299r {d : Nat} {N : M2} {f : Int32 → Mm → Prop} {s i o z : Int32} (hd : 3 ≤ d) (h : rg s 6 = true) (ho : ix o < 5) (e1 : gI N 103 (ix s) = -2 - o) (e2 : gI N 104 (ix s) = z) (hz : ix z ≤ 60) (k : f (bif rg i (ix z) then 0 else -13) (FR b, N)) : WP d 107 299 0 [.ref 67, .int s, .int i] [] 107 (FR b, N) (rI f) := by
  obtain ⟨d, rfl⟩ := ex1 (e := 2) hd
  have hs := rg_tt h
  have hq := srt ho
  refine v299_0 (c183 (by omega) ⟨rfl, brK_b (fun q => ff q h) (fun _ => iK_i hs ?_)⟩)
  dsimp only
  rw [e1, e2]
  refine brK_f hq.1 (iK_i hs (brK_t hq.2.1 (iK_i hs (c180 (by omega) ⟨rfl, ?_⟩))))
  rw [inV_c (nn_of hz (by decide))]
  refine brK_b (fun q => ?_) (fun q => ?_)
  · rw [q] at k; exact k
  · rw [q] at k; exact k
theorem c299e {d : Nat} {N : M2} {f : Int32 → Mm → Prop} {s i : Int32} (hd : 3 ≤ d) (h : rg s 6 = true) (e1 : gI N 103 (ix s) = -1) (k : f (-11) (FR b, N)) : WP d 107 299 0 [.ref 67, .int s, .int i] [] 107 (FR b, N) (rI f) := by
  obtain ⟨d, rfl⟩ := ex1 (e := 2) hd
  have hs := rg_tt h
  exact v299_0 (c183 (by omega) ⟨rfl, brK_b (fun q => ff q h) (fun _ => iK_i hs (brK_t e1 k))⟩)
theorem c299b {d : Nat} {N : M2} {f : Int32 → Mm → Prop} {s i : Int32} (hd : 3 ≤ d) (h : rg s 6 = true) (e1 : 0 ≤ (gI N 103 (ix s)).toInt) (k : f (-12) (FR b, N)) : WP d 107 299 0 [.ref 67, .int s, .int i] [] 107 (FR b, N) (rI f) := by
  obtain ⟨d, rfl⟩ := ex1 (e := 2) hd
  have hs := rg_tt h
  refine v299_0 (c183 (by omega) ⟨rfl, brK_b (fun q => ff q h) (fun _ => iK_i hs (brK_f (fun q => ?_) (iK_i hs (brK_f (fun q => ?_) k))))⟩)
  · have q1 : gI N 103 (ix s) = -1 := q
    rw [q1] at e1
    exact absurd e1 (by decide)
  · have q1 : gI N 103 (ix s) < 0 := q
    rw [i_lt, z_toInt] at q1
    omega
/-- element -/
theorem P_element (hI : INV b M) {s i : Int32} : PAIRL b M 172 300 [.ref 4, .int s, .int i, U] [.ref 67, .int s, .int i] := by
  obtain ⟨hS, hH, hV, hSc, hL, hC, hA, hSh, hT, hLw⟩ := id hI
  intro d hd f k
  obtain ⟨d, rfl⟩ := ex1 (e := 199) hd
  refine v172_0 (c18 (by omega) (fun h => ⟨rfl, ?_⟩) (fun h => ⟨rfl, ?_⟩))
  · exact k _ M rfl (fun f2 k2 => v300_0 (c299n (by omega) h ⟨rfl, brK_f (by decide) (k2 M hI rfl)⟩))
  · have hs := rg_tt h
    have hk := sh_kd _ hs
    rcases hSh _ hs with q | q | q
    · exact oK_i hk.2.1 hk.1 (brK_f (by dsimp only; rw [q.1]; decide) (k _ M rfl (fun f2 k2 => v300_0 (c299e (by omega) h q.2 ⟨rfl, brK_f (by decide) (k2 M hI rfl)⟩))))
    · have h0 : 0 ≤ (gI M 103 (ix s)).toInt := by
        have e := q.2.1
        have := q.2.2
        have := hA.1
        have := ix_t (gI M (shC (ix s)) 1)
        rw [e]
        omega
      exact oK_i hk.2.1 hk.1 (brK_f (by dsimp only; rw [q.1]; decide) (k _ M rfl (fun f2 k2 => v300_0 (c299b (by omega) h h0 ⟨rfl, brK_f (by decide) (k2 M hI rfl)⟩))))
    · obtain ⟨q0, q1, q2, q3, q4, q5⟩ := q
      have hz := ix_t (gI M (shC (ix s)) 3)
      have hi := ix_t i
      refine oK_i hk.2.1 hk.1 (brK_t q0 ⟨fun h1 => ?_, fun h1 => oK_i hk.2.1 hk.1 ⟨fun h2 => oK_i hk.2.1 hk.1 (c21 (by omega) hs q3 ⟨rfl, ?_⟩), fun h2 => ?_⟩⟩)
      · refine k _ M rfl (fun f2 k2 => v300_0 (c299r (by omega) h q2 q1 q4 q3 ⟨rfl, ?_⟩))
        rw [i_lt, z_toInt] at h1
        rw [rg_f.mpr (by omega)]
        exact brK_f (by decide) (k2 M hI rfl)
      · have h1' := h1
        have h2' : i < gI M (shC (ix s)) 3 := h2
        rw [i_lt, z_toInt] at h1'
        rw [i_lt] at h2'
        have hr : ix i < ix (gI M (shC (ix s)) 3) := by omega
        refine k _ M rfl (fun f2 k2 => v300_0 (c299r (by omega) h q2 q1 q4 q3 ⟨rfl, ?_⟩))
        rw [rg_t.mpr hr]
        have ea : ix (60 * s + i) = 60 * ix s + ix i := ix_at rfl (by omega)
        refine brK_t (by decide) (iK_i (by rw [ea]; omega) ?_)
        have ev : itV M (ix s) i = gL M 105 (60 * ix s + ix i) := by
          unfold itV
          rw [rg_t.mpr hr, q5 _ (by omega)]
          rfl
        dsimp only
        rw [ea, ← ev]
        exact k2 M hI rfl
      · refine k _ M rfl (fun f2 k2 => v300_0 (c299r (by omega) h q2 q1 q4 q3 ⟨rfl, ?_⟩))
        have h2' : ¬ i < gI M (shC (ix s)) 3 := h2
        rw [i_lt] at h2'
        rw [i_lt, z_toInt] at h1
        rw [rg_f.mpr (by omega)]
        exact brK_f (by decide) (k2 M hI rfl)
end PAIRS
