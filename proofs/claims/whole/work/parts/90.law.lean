def frSS : Nat → Nat → Bool := fun r j => nin [79, 80, 81, 82, 83] r && !(Nat.beq r 67 && Nat.ble 16 j && Nat.ble j 28)
section LAWP
variable {d : Nat} {b : Bool} {tp : Nat → Int32} {n p l : Nat} {cd : LC} {ls : LNS} {N M : M2} {f : Int32 → Mm → Prop}
theorem sgR_128 {c a w : Int32} (h : sgR c a w) : a.toInt8.toInt32 = a := by
  have e : ix a < 128 := by
    rcases h with ⟨v, _, _, h, _⟩ | ⟨_, h, _⟩ | ⟨_, h⟩ | ⟨_, h⟩ | ⟨h, h2⟩
    · rw [h]; decide
    · rw [h]; decide
    · rw [h]; decide
    · rw [h]; decide
    · rw [h2]; exact bin_128 h
  have v := (i8_v (ix a) (by omega)).1 e
  rw [n_ix] at v
  exact v
theorem l105 (hl : cd.length ≤ 120) (hls : ls.length ≤ 60) {N0 : M2} (h20 : gI N0 67 20 = nI cd.length) (hS : SK N0 cd) (h81 : gI N0 81 1 = nI ls.length) (k : ∀ N', agr (fr [79, 80]) N0 N' → (∀ j, j < cd.length → sgR (cd.getD j 0) (gI N' 79 j) (gI N' 80 j)) → WP (d + 1) 107 199 177 [.ref 67, .int 0, .int 0] [] 107 (FR b, sI N' 81 0 (nI ls.length)) (rI f)) : ∀ m i (N : M2), i + m = cd.length → agr (fr [79, 80]) N0 N → (∀ j, 130 ≤ j → gI N 79 j = gI N0 79 j ∧ gI N 80 j = gI N0 80 j) → (∀ j, j < i → sgR (cd.getD j 0) (gI N 79 j) (gI N 80 j)) → WP (d + 1) 107 199 105 [.ref 67, .int 0, .int (nI i)] [] 107 (FR b, N) (rI f) := by
  intro m
  induction m with
  | zero =>
    intro i N hi hN h1 h2
    have : i = cd.length := by omega
    subst this
    refine v199_105 (brK_t (by rw [agr_nI hN rfl, h20, i_le]; exact Int.le_refl _) (iK_i (by decide) ?_))
    rw [agr_nI hN rfl, h81]
    exact k N hN h2
  | succ m ih =>
    intro i N hi hN h1 h2
    have e1 : (130 : Int32) + nI i = nI (130 + i) := nI_add 130 i
    have e2 : (130 * 0 + nI i : Int32) = nI i := by rw [show (130 : Int32) * 0 = 0 from rfl, Int32.zero_add]
    have i1 : ix (nI (130 + i)) = 130 + i := ix_n (by omega)
    have i2 : ix (nI i) = i := ix_n (by omega)
    refine v199_105 (brK_f (by rw [agr_nI hN rfl, h20, nI_leI (by omega) (by omega)]; omega) ?_)
    rw [e1, e2, i1, i2, nI_1]
    refine iK_i (by omega) (iK_i (by omega) (iK_i (by omega) (iK_i (by omega) ?_)))
    have hs := hS i (by omega)
    have a1 := h1 (130 + i) (by omega)
    rw [a1.1, a1.2, sgR_128 hs]
    refine ih (i + 1) _ (by omega) (agr_sI rfl (agr_sI rfl hN)) (fun j hj => ⟨?_, ?_⟩) (fun j hj => ?_)
    · rw [gI_or (a := 79) (r := 80) (by decide), gI_oj (by omega)]; exact (h1 j hj).1
    · rw [gI_oj (by omega), gI_or (a := 80) (r := 79) (by decide)]; exact (h1 j hj).2
    · rw [gI_or (a := 79) (r := 80) (by decide)]
      by_cases e : j = i
      · subst e; rw [gI_s, gI_s]; exact hs
      · rw [gI_oj e, gI_oj e, gI_or (a := 80) (r := 79) (by decide)]; exact h2 j (by omega)
theorem l177 (hls : ls.length ≤ 60) (hb : ∀ i, i < ls.length → (lsB ls i).1 ≤ 120 ∧ (lsB ls i).2 ≤ 120) {N0 : M2} (h81 : gI N0 81 0 = nI ls.length) (hK : ∀ i, i < ls.length → gI N0 82 (61 + i) = nI (lsB ls i).1 ∧ gI N0 83 (61 + i) = nI (lsB ls i).2) (k : ∀ N', agr (fr [82, 83]) N0 N' → (∀ j, j < ls.length → gI N' 82 j = nI (lsB ls j).1 ∧ gI N' 83 j = nI (lsB ls j).2) → f (-1) (FR b, N')) : ∀ m i (N : M2), i + m = ls.length → agr (fr [82, 83]) N0 N → (∀ j, 61 ≤ j → gI N 82 j = gI N0 82 j ∧ gI N 83 j = gI N0 83 j) → (∀ j, j < i → gI N 82 j = nI (lsB ls j).1 ∧ gI N 83 j = nI (lsB ls j).2) → WP (d + 1) 107 199 177 [.ref 67, .int 0, .int (nI i)] [] 107 (FR b, N) (rI f) := by
  intro m
  induction m with
  | zero =>
    intro i N hi hN h1 h2
    have : i = ls.length := by omega
    subst this
    refine v199_177 (iK_i (by decide) (brK_t ?_ (k N hN h2)))
    rw [show ix 0 = 0 from rfl, agr_nI hN rfl, h81, i_le]; exact Int.le_refl _
  | succ m ih =>
    intro i N hi hN h1 h2
    have e1 : (61 : Int32) + nI i = nI (61 + i) := nI_add 61 i
    have e2 : (61 * 0 + nI i : Int32) = nI i := by rw [show (61 : Int32) * 0 = 0 from rfl, Int32.zero_add]
    have i1 : ix (nI (61 + i)) = 61 + i := ix_n (by omega)
    have i2 : ix (nI i) = i := ix_n (by omega)
    have hbb := hb i (by omega)
    have a1 := h1 (61 + i) (by omega)
    have kk := hK i (by omega)
    refine v199_177 (iK_i (by decide) (brK_f (by rw [show ix 0 = 0 from rfl, agr_nI hN rfl, h81, nI_leI (by omega) (by omega)]; omega) ?_))
    rw [e1, e2, i1, i2, nI_1]
    refine iK_i (by omega) (iK_i (by omega) (iK_i (by omega) (iK_i (by omega) ?_)))
    rw [a1.1, a1.2, kk.1, kk.2, i16_v _ (by omega), i16_v _ (by omega)]
    refine ih (i + 1) _ (by omega) (agr_sI rfl (agr_sI rfl hN)) (fun j hj => ⟨?_, ?_⟩) (fun j hj => ?_)
    · rw [gI_or (a := 82) (r := 83) (by decide), gI_oj (by omega)]; exact (h1 j hj).1
    · rw [gI_oj (by omega), gI_or (a := 83) (r := 82) (by decide)]; exact (h1 j hj).2
    · rw [gI_or (a := 82) (r := 83) (by decide)]
      by_cases e : j = i
      · subst e; rw [gI_s, gI_s]; exact ⟨rfl, rfl⟩
      · rw [gI_oj e, gI_oj e, gI_or (a := 83) (r := 82) (by decide)]; exact h2 j (by omega)
theorem LV_b {cd : LC} {ls : LNS} (h : LVd cd ls) {i : Nat} (hi : i < ls.length) : stN ls i ≤ (lsB ls i).1 ∧ (lsB ls i).1 ≤ (lsB ls i).2 ∧ (lsB ls i).2 ≤ cd.length := by
  obtain ⟨pre, s1, s2, post, h1, h2, h3, h4, _, _⟩ := h.2 i hi
  have : cd.length = pre.length + (s1.length + (s2.length + post.length)) := by rw [h1, List.length_append, List.length_append, List.length_append]
  omega
/-- law, the reference's -/
theorem k198 (hn : n ≤ 120) (ht : ∀ j, j < 120 → ix (tp j) < 256) (hd : 65 ≤ d) (h16 : gI N 67 16 = nI n) (h78 : ∀ j, j < 120 → gI N 78 j = (tp j).toInt8.toInt32) (k0 : (RD tp n).1 = false → ∀ N', agr frQ N N' → f (-100 - nI (RD tp n).2.1) (FR b, sI N' 67 16 0)) (k1 : (RD tp n).1 = true → ∀ N', agr frSS N N' → gI N' 67 16 = 0 → gI N' 67 28 = 1 → gI N' 81 0 = nI (RD tp n).2.2.2.length → (∀ j, j < (RD tp n).2.2.1.length → sgR ((RD tp n).2.2.1.getD j 0) (gI N' 79 j) (gI N' 80 j)) → (∀ j, j < (RD tp n).2.2.2.length → gI N' 82 j = nI (lsB (RD tp n).2.2.2 j).1 ∧ gI N' 83 j = nI (lsB (RD tp n).2.2.2 j).2) → (∀ j, 20 < j → j < 28 → gI N' 67 j = gI N 67 j) → f 1 (FR b, N')) : WP d 107 198 0 [.ref 67, U] [] 107 (FR b, N) (rI f) := by
  obtain ⟨d, rfl⟩ := ex1 (e := 64) hd
  obtain ⟨d, rfl⟩ := ex1 (e := 63) (d := d) (by omega)
  have ok := RD_ok (tp := tp) (n := n)
  have hT : RTX b tp n (EE tp n) 201 61 [.ref 67] (nI (6 - 6)) := REi (d0 := 56) hn ht (opP_ok bHok 6) (R206 hn ht 6 (by decide)) (by decide)
  have R0 : RS tp n (sI (sI (sI (sI (sI N 67 17 0) 67 18 (-1)) 67 19 0) 67 20 0) 81 1 0) 0 (nI (6 - 6)) ([] : LC).length (-1) := ⟨by
      rw [gI_or (by decide), gI_oj (by decide), gI_oj (by decide), gI_oj (by decide), gI_oj (by decide)]; exact h16, fun j hj => by
      rw [gI_or (by decide), gI_or (by decide), gI_or (by decide), gI_or (by decide), gI_or (by decide)]; exact h78 j hj, by
      rw [gI_or (by decide), gI_oj (by decide), gI_oj (by decide), gI_oj (by decide), gI_s]; rfl, by
      rw [gI_or (by decide), gI_oj (by decide), gI_oj (by decide), gI_s], by
      rw [gI_or (by decide), gI_oj (by decide), gI_s]; rfl, by
      rw [gI_or (by decide), gI_s]; rfl⟩
  have A0 : agr frQ N (sI (sI (sI (sI (sI N 67 17 0) 67 18 (-1)) 67 19 0) 67 20 0) 81 1 0) := agr_sI rfl (agr_sI rfl (agr_sI rfl (agr_sI rfl (agr_sI rfl (agr_r N)))))
  refine v198_0 (v199_0 ?_)
  have L := fun (F : Int32 → Mm → Prop) => l199 (f := F) (u2 := U) (N0 := N) (d := d) hn ht (EEok tp n) hT (by omega) 60 0 [] [] _ rfl (Nat.le_refl _) (Nat.zero_le _) (Nat.le_refl _) R0 (fun j hj => absurd hj (Nat.not_lt_zero _)) ⟨gI_s .., fun i hi => absurd hi (Nat.not_lt_zero _)⟩ A0
  refine L _ (fun z N' hN' => ⟨rfl, ?_⟩) (fun z N' hN' hR' hS' hK' => ?_)
  · have z : (RD tp n).1 = false := z
    have q := nn_p (p := (RD tp n).2.1) (by omega)
    refine brK_f (fun y => ?_) (k0 z N' hN')
    have y : nI (RD tp n).2.1 < 0 := y
    rw [i_le] at q
    rw [i_lt] at y
    omega
  · have z : (RD tp n).1 = true := z
    have hv := ok.2.2 z
    have hR' : RS tp n N' (RD tp n).2.1 (nI (6 - 6)) (RD tp n).2.2.1.length (-1) := hR'
    have hS' : SK N' (RD tp n).2.2.1 := hS'
    have hK' : LK N' (RD tp n).2.2.2 := hK'
    have cl : (RD tp n).2.2.1.length ≤ 120 := by have := ok.1; have := ok.2.1; omega
    refine l105 (cd := (RD tp n).2.2.1) (ls := (RD tp n).2.2.2) cl hv.2.2 (N0 := sI N' 67 16 0) (by rw [gI_oj (by decide)]; exact hR'.2.2.2.2.2) (SK_7 hS') (by rw [gI_or (by decide)]; exact hK'.1) (fun N1 hN1 hs1 => ?_) (RD tp n).2.2.1.length 0 _ (by omega) (agr_r _) (fun _ _ => ⟨rfl, rfl⟩) (fun j hj => absurd hj (Nat.not_lt_zero _))
    refine l177 (ls := (RD tp n).2.2.2) hv.2.2 (fun i hi => by have := LV_b hv.1 hi; omega) (N0 := sI N1 81 0 (nI (RD tp n).2.2.2.length)) (gI_s ..) (fun i hi => ⟨?_, ?_⟩) (fun N2 hN2 hl2 => ⟨rfl, ?_⟩) (RD tp n).2.2.2.length 0 _ (by omega) (agr_r _) (fun _ _ => ⟨rfl, rfl⟩) (fun j hj => absurd hj (Nat.not_lt_zero _))
    · rw [gI_or (by decide), agr_nI hN1 rfl, gI_or (by decide)]; exact (hK'.2 i hi).1
    · rw [gI_or (by decide), agr_nI hN1 rfl, gI_or (by decide)]; exact (hK'.2 i hi).2
    · have e67 : ∀ j, gI N2 67 j = gI (sI N' 67 16 0) 67 j := fun j => (agr_nI hN2 rfl).trans ((gI_or (by decide)).trans (agr_nI hN1 rfl))
      refine brK_t (by decide) (k1 z _ ?_ ?_ (gI_s ..) ?_ (fun j hj => ?_) (fun j hj => ?_) (fun j h1 h2 => ?_))
      · have aQ : agr frSS N N' := agr_m (fun r j q => by
          unfold frSS at q
          simp only [Bool.and_eq_true] at q
          obtain ⟨q1, q2⟩ := q
          have ne : ∀ a, a ∈ [79, 80, 81, 82, 83] → Nat.beq r a = false := fun a ha => by
            cases hb : Nat.beq r a with
            | false => rfl
            | true =>
              have := Nat.eq_of_beq_eq_true hb
              subst this
              exfalso
              simp only [List.mem_cons, List.not_mem_nil, or_false] at ha
              rcases ha with e | e | e | e | e <;> subst e <;> exact absurd q1 (by decide)
          unfold frQ frR
          rw [ne 79 (by decide), ne 80 (by decide), ne 81 (by decide), ne 82 (by decide), ne 83 (by decide)]
          cases h67 : Nat.beq r 67 with
          | false => rfl
          | true =>
            rw [h67] at q2
            cases h17 : (Nat.ble 17 j && Nat.ble j 20) with
            | false => rfl
            | true =>
              rw [Bool.and_eq_true] at h17
              have a1 := Nat.le_of_ble_eq_true h17.1
              have a2 := Nat.le_of_ble_eq_true h17.2
              rw [ble_t (show 16 ≤ j by omega), ble_t (show j ≤ 28 by omega)] at q2
              exact absurd q2 (by decide)) hN'
        have b1 : agr frSS N' (sI N' 67 16 0) := agr_sI rfl (agr_r N')
        have b2 : agr frSS N1 (sI N1 81 0 (nI (RD tp n).2.2.2.length)) := agr_sI rfl (agr_r N1)
        refine agr_sI rfl (agr_t aQ (agr_t b1 (agr_t ?_ (agr_t b2 ?_))))
        · refine agr_m (fun r j q => ?_) hN1
          unfold frSS at q
          simp only [nin, Bool.and_eq_true] at q
          simp only [fr, nin, Bool.and_eq_true]
          exact ⟨q.1.1, q.1.2.1, trivial⟩
        · refine agr_m (fun r j q => ?_) hN2
          unfold frSS at q
          simp only [nin, Bool.and_eq_true] at q
          simp only [fr, nin, Bool.and_eq_true]
          exact ⟨q.1.2.2.2.1, q.1.2.2.2.2.1, trivial⟩
      · rw [gI_oj (by decide)]
        show gI N2 67 16 = 0
        rw [e67, gI_s]
      · rw [gI_or (by decide)]
        exact (agr_nI hN2 rfl).trans (gI_s ..)
      · rw [gI_or (by decide), gI_or (by decide)]
        have s1 := hs1 j hj
        have t1 : gI N2 79 j = gI N1 79 j := (agr_nI hN2 rfl).trans (gI_or (by decide))
        have t2 : gI N2 80 j = gI N1 80 j := (agr_nI hN2 rfl).trans (gI_or (by decide))
        show sgR _ (gI N2 79 j) (gI N2 80 j)
        rw [t1, t2]
        exact s1
      · rw [gI_or (by decide), gI_or (by decide)]
        exact hl2 j hj
      · rw [gI_oj (by omega)]
        show gI N2 67 j = _
        rw [e67, gI_oj (by omega)]
        have : frQ 67 j = true := by
          unfold frQ frR
          rw [ble_f (show ¬ j ≤ 20 by omega), Bool.and_false]
          rfl
        exact agr_nI hN' this
end LAWP
