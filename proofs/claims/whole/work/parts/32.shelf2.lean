section PAIRS
variable {b : Bool} {M : M2}
theorem f3_kp {i : Nat} (hi : i < 6) {x : Int32} : gI (kpC M i x) 3 = gI M 3 := by
  have : ∀ i, i < 6 → shC i ≠ 3 := by decide
  unfold kpC
  rw [gI_f3 (this i hi), gI_f3 (this i hi)]
theorem l166 {d : Nat} {f : Int32 → Mm → Prop} {u v : Value} {i : Nat} (hi : i < 6) {x : Int32} (hx : x = -1 ∨ 0 ≤ x) (k : f 1 (FR b, kpC M i x)) : WP (d + 1) 107 166 28 [u, v, .int x, .ref (shC i)] [] 107 (FR b, M) (rI f) := by
  have hk := sh_kd i hi
  unfold kpC at k
  refine v166_28 ⟨fun h => ?_, fun h => ?_⟩
  · have hn : ¬ x = -1 := by intro q; subst q; exact absurd h (by decide)
    rw [decide_eq_false hn] at k
    rw [sF_eq, sF_eq]
    exact oK_i hk.2.1 hk.1 (oK_i hk.2.1 hk.1 k)
  · have hn : x = -1 := hx.elim id (fun q => absurd q h)
    rw [decide_eq_true hn] at k
    rw [sF_eq, sF_eq]
    exact oK_i hk.2.1 hk.1 (oK_i hk.2.1 hk.1 k)
theorem P_keep (hI : INV b M) {s x : Int32} : PAIR b M 166 296 [.ref 4, .int s, .int x, U] [.ref 67, .int s, .int x] := by
  obtain ⟨hS, hH, hV, hSc, hL, hC, hA, hSh, hT, hLw⟩ := id hI
  have n1 : 0 ≤ (gI M 40 0).toInt := nn_of hA.1 (by decide)
  intro d hd f k
  obtain ⟨d, rfl⟩ := ex1 (e := 199) hd
  refine v166_0 (c18 (by omega) (fun h => ⟨rfl, ?_⟩) (fun h => ⟨rfl, ⟨fun h1 => ?_, fun h1 => c162 (by omega) n1 ⟨rfl, brK_b (fun h2 => ?_) (fun h2 => ?_)⟩⟩⟩))
  · exact k _ M rfl (fun f2 k2 => v296_0 (c183 (by omega) ⟨rfl, brK_b (fun _ => k2 M hI rfl) (fun q => ff h q)⟩))
  · have hi := rg_tt h
    refine l166 hi (Or.inl h1) (k _ _ (f3_kp hi) (fun f2 k2 => v296_0 (c183 (by omega) ⟨rfl, brK_b (fun q => ff q h) (fun _ => brK_t h1 (iK_i hi (k2 _ (INV_keep hI hi (Or.inl h1)) ?_)))⟩)))
    rw [gI_f3 (by decide), f3_kp hi]
  · have e57 : gI M 67 57 = gI M 40 0 := hA.2.1
    refine k _ M rfl (fun f2 k2 => v296_0 (c183 (by omega) ⟨rfl, brK_b (fun q => ff q h) (fun _ => brK_f h1 (c281 (by omega) (by dsimp only; rw [e57]; exact n1) ⟨rfl, ?_⟩))⟩))
    dsimp only
    rw [e57]
    exact brK_b (fun _ => k2 M hI rfl) (fun q => ff h2 q)
  · have hi := rg_tt h
    have hx : ix x < ix (gI M 40 0) := rg_tt h2
    have hx0 : 0 ≤ x := by
      have := ix_t x
      have := hA.1
      rw [i_le, z_toInt]
      omega
    have e57 : gI (kpC M (ix s) x) 67 57 = gI M 40 0 := by
      have : ∀ i, i < 6 → (67 : Nat) ≠ shC i := by decide
      unfold kpC
      rw [gI_or (this _ hi), gI_or (this _ hi)]
      exact hA.2.1
    refine l166 hi (Or.inr hx0) (k _ _ (f3_kp hi) (fun f2 k2 => v296_0 (c183 (by omega) ⟨rfl, brK_b (fun q => ff q h) (fun _ => brK_f h1 (c281 (by omega) (by dsimp only; rw [e57]; exact n1) ⟨rfl, ?_⟩))⟩)))
    dsimp only
    rw [e57]
    refine brK_b (fun q => ff q h2) (fun _ => iK_i hi (k2 _ (INV_keep hI hi (Or.inr hx)) ?_))
    rw [gI_f3 (by decide), f3_kp hi]
end PAIRS
