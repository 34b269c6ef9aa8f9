section PAIRS
variable {b : Bool} {M : M2}
theorem f3_row {s : Nat} (hs : s < 6) {o n : Int32} : gI (rowM M s o n) 3 = gI M 3 := by
  have : ∀ i, i < 6 → shC i ≠ 3 := by decide
  show gI (sI (sI (sI M (shC s) 0 2) (shC s) 2 o) (shC s) 3 n) 3 = _
  rw [gI_f3 (this s hs), gI_f3 (this s hs), gI_f3 (this s hs)]
theorem P_row (hI : INV b M) {s o n : Int32} : PAIR b M 167 297 [.ref 4, .int s, .int o, .int n, U] [.ref 67, .int s, .int o, .int n, U] := by
  intro d hd f k
  obtain ⟨d, rfl⟩ := ex1 (e := 199) hd
  have go : rg s 6 = true → rg o 5 = true → ∀ (N : M2) (f2 : Int32 → Mm → Prop), brK (n ≤ 60) (brK (0 ≤ n) (iK s 6 (iK s 6 (WP (d + 1) 107 297 54 [.ref 67, .int s, .int o, .int n, .int (60 * s)] [] 107 (FR b, sI (sI N 103 (ix s) (-2 - o)) 104 (ix s) n) (rI f2)))) (f2 (-14) (FR b, N))) (f2 (-1) (FR b, N)) → WP (d + 1) 107 297 0 [.ref 67, .int s, .int o, .int n, U] [] 107 (FR b, N) (rI f2) := by
    intro h h2 N f2 q
    exact v297_0 (c183 (by omega) ⟨rfl, brK_b (fun q => ff q h) (fun _ => c180n 4 (by omega) rfl (by decide) ⟨rfl, brK_b (fun q => ff q h2) (fun _ => q)⟩)⟩)
  refine v167_0 (c18 (by omega) (fun h => ⟨rfl, ?_⟩) (fun h => ⟨rfl, brK_rh (n := 4) rfl (by decide) (fun h2 => ?_) (fun h2 => ⟨fun h3 => ⟨fun h4 => ?_, fun h4 => ?_⟩, fun h3 => ?_⟩)⟩))
  · exact k _ M rfl (fun f2 k2 => v297_0 (c183 (by omega) ⟨rfl, brK_b (fun _ => k2 M hI rfl) (fun q => ff h q)⟩))
  · exact k _ M rfl (fun f2 k2 => v297_0 (c183 (by omega) ⟨rfl, brK_b (fun q => ff q h) (fun _ => c180n 4 (by omega) rfl (by decide) ⟨rfl, brK_b (fun _ => k2 M hI rfl) (fun q => ff h2 q)⟩)⟩))
  · have hs := rg_tt h
    have hk := sh_kd _ hs
    have hn : ix n ≤ 60 := by
      have := ix_t n
      rw [i_le, show (60 : Int32).toInt = 60 from rfl] at h3
      rw [i_le, z_toInt] at h4
      omega
    refine oK_i hk.2.1 hk.1 (c168 (by omega) hs h3 ⟨rfl, k _ _ (f3_row hs) (fun f2 k2 => go h h2 _ f2 (brK_t h3 (brK_t h4 (iK_i hs (iK_i hs ?_)))))⟩)
    have e : 60 * s = nI (60 * ix s + 0) := by
      apply ix_inj
      have := ix_at (c := 60) (n := 60) (s := s) (i := 0) rfl (by rw [show ix 0 = 0 from rfl]; omega)
      rw [ix_n (by omega)]
      rw [show (60 * s + 0 : Int32) = 60 * s from Int32.add_zero _] at this
      exact this
    rw [e]
    have := l297 (b := b) (d := d) (N := sI (sI (rowM M (ix s) o n) 103 (ix s) (-2 - o)) 104 (ix s) n) (f := f2) (x := s) (u := .int o) (v := .int n) hs rfl (k2 _ (INV_row hI hs (rg_tt h2) hn) (by
      show gI (sI (sI (rowM M (ix s) o n) 103 (ix s) (-2 - o)) 104 (ix s) n) 3 = _
      rw [gI_f3 (by decide), gI_f3 (by decide), f3_row hs])) 60 0 rfl
    rw [clr_0] at this
    exact this
  · exact k _ M rfl (fun f2 k2 => go h h2 M f2 (brK_t h3 (brK_f h4 (k2 M hI rfl))))
  · exact k _ M rfl (fun f2 k2 => go h h2 M f2 (brK_f h3 (k2 M hI rfl)))
end PAIRS
