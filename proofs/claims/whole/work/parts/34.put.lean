section PAIRS
variable {b : Bool} {M : M2}
def cutV (o : Int32) (v : Int64) : Int64 := bif decide (o = 0) then v.toInt32.toInt8.toInt32.toInt64 else bif decide (o = 1) then v.toInt32.toInt16.toInt32.toInt64 else bif decide (o = 2) then v.toInt32.toInt64 else bif decide (o = 3) then v else bif decide (lg_cmp v 0 = 0) then 0 else 1
theorem c171 {d : Nat} {N : M2} {f : Int64 → Mm → Prop} {s : Nat} {v : Int64} (hd : 1 ≤ d) (hs : s < 6) (ho : ix (gI N (shC s) 2) < 5) (k : f (cutV (gI N (shC s) 2) v) (FR b, N)) : WP d 107 171 0 [.ref (shC s), .long v, U] [] 107 (FR b, N) (rL f) := by
  obtain ⟨d, rfl⟩ := ex1 hd
  have hk := sh_kd s hs
  unfold cutV at k
  refine v171_0 (oK_i hk.2.1 hk.1 ⟨fun h => ?_, fun h0 => ⟨fun h => ?_, fun h1 => ⟨fun h => ?_, fun h2 => ⟨fun h => ?_, fun h3 => ⟨fun h => ?_, fun h4 => ?_⟩⟩⟩⟩⟩)
  · rw [h] at k; exact k
  · rw [h] at k; exact k
  · rw [h] at k; exact k
  · rw [h] at k; exact k
  · rw [h] at k
    refine brK_d (fun q => ?_) (fun q => ?_)
    · rw [q] at k; exact k
    · rw [q] at k; exact k
  · have a0 : ix (gI N (shC s) 2) ≠ 0 := ix_lit h0
    have a1 : ix (gI N (shC s) 2) ≠ 1 := ix_lit h1
    have a2 : ix (gI N (shC s) 2) ≠ 2 := ix_lit h2
    have a3 : ix (gI N (shC s) 2) ≠ 3 := ix_lit h3
    have a4 : ix (gI N (shC s) 2) ≠ 4 := ix_lit h4
    omega
theorem gL_if (M : M2) (r k a j : Nat) (v : Int64) : gL (sL M r k v) a j = if a = r ∧ j = k then v else gL M a j := rfl
theorem INV_put (hI : INV b M) {s i : Nat} (hs : s < 6) (hi : i < 60) {w : Int64} (h2 : gI M (shC s) 0 = 2) : INV b (sL (sL M (shC s + 1) i w) 105 (60 * s + i) w) := by
  have hSh := hI.2.2.2.2.2.2.2.1
  refine INV_shf hI ?_ ?_
  · intro q h0 h1 h3 h4 h5 h6
    exact agr_sL (h5 _) (agr_sL (h1 s hs _) (agr_r M))
  · intro a ha
    have eI : ∀ r j, gI (sL (sL M (shC s + 1) i w) 105 (60 * s + i) w) r j = gI M r j := fun r j => rfl
    have n105 : ∀ i, i < 6 → shC i + 1 ≠ 105 ∧ 105 ≠ shC i + 1 := by decide
    have hinj : ∀ i, i < 6 → ∀ a, a < 6 → (shC i + 1 = shC a + 1 ↔ i = a) := by decide
    unfold ShfR1
    simp only [eI]
    rcases hSh a ha with q | q | q
    · exact Or.inl q
    · exact Or.inr (Or.inl q)
    · refine Or.inr (Or.inr ⟨q.1, q.2.1, q.2.2.1, q.2.2.2.1, q.2.2.2.2.1, fun k hk => ?_⟩)
      have qk := q.2.2.2.2.2 k hk
      have eA : gL (sL (sL M (shC s + 1) i w) 105 (60 * s + i) w) (shC a + 1) k = gL (sL M (shC s + 1) i w) (shC a + 1) k := gL_o (fun q => (n105 a ha).1 q.1)
      have eB : gL (sL M (shC s + 1) i w) 105 (60 * a + k) = gL M 105 (60 * a + k) := gL_o (fun q => (n105 s hs).2 q.1)
      rw [eA]
      by_cases hak : a = s ∧ k = i
      · rw [hak.1, hak.2, gL_s, gL_s]
      · rw [gL_o (a := 105) (fun q => hak (by have := q.2; omega)), eB, gL_o (a := shC a + 1) (fun q => hak ⟨(hinj a ha s hs).mp q.1, q.2⟩)]
        exact qk
theorem P_put (hI : INV b M) {s i : Int32} {v : Int64} : PAIR b M 169 298 [.ref 4, .int s, .int i, .long v, U, U] [.ref 67, .int s, .int i, .long v, U, U, U] := by
  obtain ⟨hS, hH, hV, hSc, hL, hC, hA, hSh, hT, hLw⟩ := id hI
  intro d hd f k
  obtain ⟨d, rfl⟩ := ex1 (e := 199) hd
  refine v169_0 (c18 (by omega) (fun h => ⟨rfl, ?_⟩) (fun h => ⟨rfl, ?_⟩))
  · exact k _ M rfl (fun f2 k2 => v298_0 (c299n (by omega) h ⟨rfl, brK_f (by decide) (k2 M hI rfl)⟩))
  · have hs := rg_tt h
    have hk := sh_kd _ hs
    rcases hSh _ hs with q | q | q
    · refine oK_i hk.2.1 hk.1 (brK_f (by dsimp only; rw [q.1]; decide) (oK_i hk.2.1 hk.1 (c66 (by omega) hs ⟨rfl, ?_⟩)))
      have e : refV M (ix s) = -11 := by unfold refV; rw [q.1]; rfl
      dsimp only
      rw [e]
      exact k _ M rfl (fun f2 k2 => v298_0 (c299e (by omega) h q.2 ⟨rfl, brK_f (by decide) (k2 M hI rfl)⟩))
    · have h0 : 0 ≤ (gI M 103 (ix s)).toInt := by
        have e := q.2.1
        have := q.2.2
        have := hA.1
        have := ix_t (gI M (shC (ix s)) 1)
        rw [e]
        omega
      refine oK_i hk.2.1 hk.1 (brK_f (by dsimp only; rw [q.1]; decide) (oK_i hk.2.1 hk.1 (c66 (by omega) hs ⟨rfl, ?_⟩)))
      have e : refV M (ix s) = -12 := by unfold refV; rw [q.1]; rfl
      dsimp only
      rw [e]
      exact k _ M rfl (fun f2 k2 => v298_0 (c299b (by omega) h h0 ⟨rfl, brK_f (by decide) (k2 M hI rfl)⟩))
    · obtain ⟨q0, q1, q2, q3, q4, q5⟩ := q
      have hz := ix_t (gI M (shC (ix s)) 3)
      have hi := ix_t i
      obtain ⟨d, rfl⟩ := ex1 (e := 198) (d := d) (by omega)
      have bad : ¬ ix i < ix (gI M (shC (ix s)) 3) → f (-13) (FR b, M) := by
        intro hn
        refine k _ M rfl (fun f2 k2 => v298_0 (c299r (by omega) h q2 q1 q4 q3 ⟨rfl, ?_⟩))
        rw [rg_f.mpr hn]
        exact brK_f (by decide) (k2 M hI rfl)
      have hl : lenI M (shC (ix s) + 1) = nI 60 := by unfold lenI; rw [hk.2.2.1, hk.2.2.2.2]; rfl
      have h60 := nI_toInt (n := 60) (by decide)
      refine oK_i hk.2.1 hk.1 (brK_t q0 (oK_i hk.2.1 hk.1 (v170_0 ⟨fun h1 => ⟨rfl, brK_t rfl ?_⟩, fun h1 => oK_i hk.2.1 hk.1 ⟨fun h2 => ⟨rfl, brK_t rfl ?_⟩, fun h2 => oK_i hk.2.1 hk.1 (rK_i (FRs4 b _ hs) (rdN_i hk.2.2.2.1 (by rw [hk.2.2.1]; decide) ⟨fun h3 => oK_i hk.2.1 hk.1 (rK_i (FRs4 b _ hs) (oK_i hk.2.1 hk.1 (c171 (by omega) hs q2 ⟨rfl, oK_i hk.2.2.2.1 hk.2.2.1 (iK_i ?_ ⟨rfl, brK_f (by decide) ?_⟩)⟩))), fun h3 => ?_⟩))⟩⟩)))
      · rw [i_lt, z_toInt] at h1
        exact bad (by omega)
      · have h2' : gI M (shC (ix s)) 3 ≤ i := h2
        rw [i_lt, z_toInt] at h1
        rw [i_le] at h2'
        exact bad (by omega)
      · have h2' : ¬ gI M (shC (ix s)) 3 ≤ i := h2
        rw [i_lt, z_toInt] at h1
        rw [i_le] at h2'
        rw [hk.2.2.2.2]
        omega
      · have h2' : ¬ gI M (shC (ix s)) 3 ≤ i := h2
        rw [i_lt, z_toInt] at h1
        rw [i_le] at h2'
        have hr : ix i < ix (gI M (shC (ix s)) 3) := by omega
        have ea : ix (60 * s + i) = 60 * ix s + ix i := ix_at rfl (by omega)
        have hx : ix (60 * s + i) < 360 := by rw [ea]; omega
        have hp := srt q2
        have hP := INV_put hI hs (i := ix i) (by omega) (w := cutV (gI M (shC (ix s)) 2) v) q0
        refine k _ _ (by funext j; rfl) (fun f2 k2 => v298_0 (c299r (o := gI M (shC (ix s)) 2) (z := gI M (shC (ix s)) 3) (by omega) h q2 q1 q4 q3 ⟨rfl, ?_⟩))
        have e103 : gI (sL M (shC (ix s) + 1) (ix i) (cutV (gI M (shC (ix s)) 2) v)) 103 (ix s) = -2 - gI M (shC (ix s)) 2 := q1
        rw [rg_t.mpr hr]
        dsimp only
        rw [e103, hp.2.2, ea]
        have K2 := k2 _ hP (by funext j; rfl)
        obtain ⟨o, ho⟩ : ∃ o, o = gI M (shC (ix s)) 2 := ⟨_, rfl⟩
        rw [← ho] at K2 q2 ⊢
        have hx' : ix (60 * s + i) < 360 := hx
        obtain ⟨c, hc⟩ : ∃ c, c = cutV o v := ⟨_, rfl⟩
        rw [← hc] at K2 ⊢
        unfold cutV at hc
        refine brK_t (by decide) (iK_i hs ⟨fun g => iK_i hx ?_, fun g0 => ⟨fun g => iK_i hx ?_, fun g1 => ⟨fun g => iK_i hx ?_, fun g2 => ⟨fun g => iK_i hx ?_, fun g3 => ⟨fun g => iK_i hx ?_, fun g4 => iK_i hx ?_⟩⟩⟩⟩⟩)
        · have e : c = v.toInt32.toInt8.toInt32.toInt64 := by rw [hc, g]; rfl
          rw [← e]; exact K2
        · have e : c = v.toInt32.toInt16.toInt32.toInt64 := by rw [hc, g]; rfl
          rw [← e]; exact K2
        · have e : c = v.toInt32.toInt64 := by rw [hc, g]; rfl
          rw [← e]; exact K2
        · have e : c = v := by rw [hc, g]; rfl
          rw [← e]; exact K2
        · have e : c = 0 := by rw [hc, decide_eq_false g0, decide_eq_false g1, decide_eq_false g2, decide_eq_false g3, decide_eq_true g]; rfl
          rw [← e]; exact K2
        · have e : c = 1 := by rw [hc, decide_eq_false g0, decide_eq_false g1, decide_eq_false g2, decide_eq_false g3, decide_eq_false g4]; rfl
          rw [← e]; exact K2
      · have h2' : ¬ gI M (shC (ix s)) 3 ≤ i := h2
        have h3' : ¬ i < nI 60 := by rw [← hl]; exact h3
        rw [i_lt, z_toInt] at h1
        rw [i_le] at h2'
        rw [i_lt] at h3'
        omega
end PAIRS
