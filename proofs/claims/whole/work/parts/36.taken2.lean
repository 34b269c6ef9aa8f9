section PAIRS
variable {b : Bool} {M : M2}
theorem P_taken (hI : INV b M) {s x : Int32} : PAIR b M 175 302 [.ref 4, .int s, .int x, U] [.ref 67, .int s, .int x] := by
  obtain ⟨hS, hH, hV, hSc, hL, hC, hA, hSh, hT, hLw⟩ := id hI
  intro d hd f k
  obtain ⟨d, rfl⟩ := ex1 (e := 199) hd
  refine v175_0 (c18 (by omega) (fun h => ⟨rfl, ?_⟩) (fun h => ⟨rfl, brK_rj (n := 8) rfl (by decide) (fun h2 => ?_) (fun h2 => ?_)⟩))
  · exact k _ M rfl (fun f2 k2 => v302_0 (c183 (by omega) ⟨rfl, brK_b (fun _ => k2 M hI rfl) (fun q => ff h q)⟩))
  · exact k _ M rfl (fun f2 k2 => v302_0 (c183 (by omega) ⟨rfl, brK_b (fun q => ff q h) (fun _ => c180n 7 (by omega) rfl (by decide) ⟨rfl, brK_b (fun _ => k2 M hI rfl) (fun q => ff h2 q)⟩)⟩))
  · have hs := rg_tt h
    have hx := rg_tt h2
    have hk := sh_kd _ hs
    have go : ∀ f2 : Int32 → Mm → Prop, iK s 6 (brK ((gI M 103 (ix s)) = (-1)) (f2 (-11) (FR b, M)) (iK s 6 (brK ((gI M 103 (ix s)) < 0) (f2 (-12) (FR b, M)) (iK s 6 (iK (gI M 103 (ix s)) 50 (WP d 107 283 0 [.int (gI M 101 (ix (gI M 103 (ix s)))), .int x] [] 107 (FR b, M) (rI (fun v6 N5 => N5.1 = FR b ∧ (brK (v6 = 0) (f2 (-12) (FR b, N5.2)) (iK s 6 (iK (gI N5.2 103 (ix s)) 50 (f2 (gI N5.2 101 (ix (gI N5.2 103 (ix s)))) (FR b, N5.2)))))))))))) ) → WP (d + 1) 107 302 0 [.ref 67, .int s, .int x] [] 107 (FR b, M) (rI f2) := by
      intro f2 q
      exact v302_0 (c183 (by omega) ⟨rfl, brK_b (fun q => ff q h) (fun _ => c180n 7 (by omega) rfl (by decide) ⟨rfl, brK_b (fun q => ff q h2) (fun _ => q)⟩)⟩)
    rcases hSh _ hs with q | q | q
    · exact oK_i hk.2.1 hk.1 (brK_t q.1 (k _ M rfl (fun f2 k2 => go f2 (iK_i hs (brK_t q.2 (k2 M hI rfl))))))
    · obtain ⟨q0, q1, q2⟩ := q
      have h40 := hA.1
      have h1 := ix_t (gI M (shC (ix s)) 1)
      have hn : ix (gI M (shC (ix s)) 1) < 50 := by omega
      have hkd := hA.2.2.1 _ hn
      have m1 : ¬ gI M 103 (ix s) = -1 := by
        intro e
        rw [q1] at e
        rw [e, show ix (-1) = 4294967295 from rfl] at hn
        omega
      have m2 : ¬ gI M 103 (ix s) < 0 := by
        rw [q1, i_lt, z_toInt]; omega
      have m3 : ix (gI M 103 (ix s)) < 50 := by rw [q1]; exact hn
      have mk : gI M 101 (ix (gI M 103 (ix s))) = gI M 41 (ix (gI M (shC (ix s)) 1)) := by rw [q1]; exact hkd.2
      refine oK_i hk.2.1 hk.1 (brK_f (by dsimp only; rw [q0]; decide) (oK_i hk.2.1 hk.1 (brK_t q0 (oK_i hk.2.1 hk.1 (c176 (by omega) hS hn hkd.1 ⟨rfl, brK_b (fun g => ?_) (fun g => oK_i hk.2.1 hk.1 (c15 (by omega) (by decide) (Or.inl rfl) ⟨rfl, ?_⟩))⟩)))))
      · refine k _ M rfl (fun f2 k2 => go f2 (iK_i hs (brK_f m1 (iK_i hs (brK_f m2 (iK_i hs (iK_i m3 (c283 (by omega) (by rw [mk]; exact hkd.1) hx ⟨rfl, ?_⟩))))))))
        rw [mk, g]
        exact brK_b (fun _ => k2 M hI rfl) (fun q => absurd q (by decide))
      · dsimp only
        rw [atV_t (show ix (gI M (shC (ix s)) 1) < ln 41 from hn)]
        refine k _ M rfl (fun f2 k2 => go f2 (iK_i hs (brK_f m1 (iK_i hs (brK_f m2 (iK_i hs (iK_i m3 (c283 (by omega) (by rw [mk]; exact hkd.1) hx ⟨rfl, ?_⟩))))))))
        rw [mk, g]
        refine brK_b (fun q => absurd q (by decide)) (fun _ => iK_i hs (iK_i m3 ?_))
        exact k2 M hI rfl
    · obtain ⟨q0, q1, q2, q3, q4, q5⟩ := q
      have hp := srt q2
      refine oK_i hk.2.1 hk.1 (brK_f (by dsimp only; rw [q0]; decide) (oK_i hk.2.1 hk.1 (brK_f (by dsimp only; rw [q0]; decide) (k _ M rfl (fun f2 k2 => go f2 (iK_i hs ?_))))))
      rw [q1]
      exact brK_f hp.1 (iK_i hs (brK_t hp.2.1 (k2 M hI rfl)))
end PAIRS
