def PAIRX (b : Bool) (M : M2) (mc mm : Nat) (ac am : List Value) : Prop := ∀ d, 200 ≤ d → ∀ f : Int32 → Mm → Prop, (∀ v b' M1, gI M1 3 = gI M 3 → (∀ f2 : Int32 → Mm → Prop, (∀ M2, INV b' M2 → gI M2 3 = gI M 3 → f2 v (FR b', M2)) → WP d 107 mm 0 am [] 107 (FR b', M1) (rI f2)) → f v (FR b', M1)) → WP d 107 mc 0 ac [] 107 (FR b, M) (rI f)
def frF (b : Bool) : Nat → Nat → Bool := fun r j => pC b r j && (!(Nat.beq r 7 && Nat.beq j 0) && !(Nat.beq r 67 && Nat.beq j 16))
theorem leD {b : Bool} : ∀ r j, frF b r j = true → frD b r j = true := by
  intro r j q
  have q0 := q
  unfold frF at q
  simp only [Bool.and_eq_true] at q
  by_cases h7 : r = 7
  · subst h7
    have h1 : Nat.beq j 0 = true := q.1
    have h2 := q.2.1
    rw [h1] at h2
    exact absurd h2 (by decide)
  · have ne : ∀ a, pC b a j = false → Nat.beq r a = false := fun a ha => beq_f (fun e => by rw [e, ha] at q; exact Bool.noConfusion q.1)
    unfold frD
    rw [beq_f h7, ne (dfC b) (by cases b <;> rfl), ne (dfC b + 1) (by cases b <;> rfl), ne (dfC b + 2) (by cases b <;> rfl), ne (dfC b + 3) (by cases b <;> rfl)]
    rfl
theorem leQ {b : Bool} : ∀ r j, frF b r j = true → frQ r j = true := by
  intro r j q
  unfold frF at q
  simp only [Bool.and_eq_true] at q
  have q1 := q.1
  unfold frQ frR
  have h67 : (Nat.beq r 67 && (Nat.ble 17 j && Nat.ble j 20)) = false := by
    cases h : Nat.beq r 67 with
    | false => rfl
    | true =>
      have e := Nat.eq_of_beq_eq_true h
      subst e
      cases h2 : (Nat.ble 17 j && Nat.ble j 20) with
      | false => rfl
      | true =>
        rw [Bool.and_eq_true] at h2
        have a1 := Nat.le_of_ble_eq_true h2.1
        have a2 := Nat.le_of_ble_eq_true h2.2
        have : j = 17 ∨ j = 18 ∨ j = 19 ∨ j = 20 := by omega
        rcases this with e | e | e | e <;> subst e <;> exact Bool.noConfusion (show false = true from q1)
  have hh : ∀ a m, (∀ j, pC b a j = Nat.blt j m) → (Nat.beq r a && Nat.ble m j) = false := by
    intro a m h
    cases h1 : Nat.beq r a with
    | false => rfl
    | true =>
      have e := Nat.eq_of_beq_eq_true h1
      subst e
      rw [h] at q1
      rw [ble_f (by have := blt_i.mp q1; omega)]
      rfl
  have h81 : (Nat.beq r 81 && Nat.beq j 1) = false := by
    cases h1 : Nat.beq r 81 with
    | false => rfl
    | true =>
      have e := Nat.eq_of_beq_eq_true h1
      subst e
      have q2 : Nat.beq j 0 = true := q1
      have := Nat.eq_of_beq_eq_true q2
      subst this
      rfl
  rw [h67, hh 79 130 (fun _ => rfl), hh 80 130 (fun _ => rfl), hh 82 61 (fun _ => rfl), hh 83 61 (fun _ => rfl), h81]
  rfl
theorem leF {b : Bool} {M M' : M2} (F : agr (frF b) M M') {q : Nat → Nat → Bool} (hq : ∀ r j, q r j = true → pC b r j = true) (h7 : q 7 0 = false) (h16 : q 67 16 = false) : agr q M M' := agr_m (fun r j h => by
  unfold frF
  rw [hq r j h]
  have h1 : (Nat.beq r 7 && Nat.beq j 0) = false := by
    cases e : (Nat.beq r 7 && Nat.beq j 0) with
    | false => rfl
    | true =>
      rw [Bool.and_eq_true] at e
      have e1 := Nat.eq_of_beq_eq_true e.1
      have e2 := Nat.eq_of_beq_eq_true e.2
      subst e1 e2
      rw [h7] at h
      exact absurd h (by decide)
  have h2 : (Nat.beq r 67 && Nat.beq j 16) = false := by
    cases e : (Nat.beq r 67 && Nat.beq j 16) with
    | false => rfl
    | true =>
      rw [Bool.and_eq_true] at e
      have e1 := Nat.eq_of_beq_eq_true e.1
      have e2 := Nat.eq_of_beq_eq_true e.2
      subst e1 e2
      rw [h16] at h
      exact absurd h (by decide)
  rw [h1, h2]
  rfl) F
theorem hrun_l {sg : Nat → Int32} : ∀ (s : LC) (k h : Nat), (∀ j, j < s.length → sg (k + j) = s.getD j 0) → hrun sg s.length k h = lrun s h
  | [], _, _, _ => rfl
  | c :: s, k, h, e => by
    have e0 : sg k = c := e 0 (Nat.succ_pos _)
    have ih := fun h' => hrun_l s (k + 1) h' (fun j hj => by
      have := e (j + 1) (Nat.succ_lt_succ hj)
      rw [show k + 1 + j = k + (j + 1) by omega]
      exact this)
    show (match hgt (sg k) h with | none => none | some h' => hrun sg s.length (k + 1) h') = (match hgt c h with | none => none | some h' => lrun s h')
    rw [e0]
    cases hgt c h with
    | none => rfl
    | some h' => exact ih h'
theorem getD_r {m : LC} : ∀ (l : LC) (j : Nat), (l ++ m).getD (l.length + j) 0 = m.getD j 0
  | [], j => by rw [List.nil_append, List.length_nil, Nat.zero_add]
  | x :: l, j => by
    have : (x :: l).length + j = (l.length + j) + 1 := by show l.length + 1 + j = _; omega
    have h : ((x :: l) ++ m).getD ((x :: l).length + j) 0 = (l ++ m).getD (l.length + j) 0 := by rw [this]; rfl
    exact h.trans (getD_r l j)
section LAWQ
variable {b : Bool} {M : M2}
theorem P_law (hI : INV b M) : PAIRX b M 38 198 [.ref 4, U] [.ref 67, U] := by
  obtain ⟨hS, hH, hV, hSc, hL, hC, hA, hSh, hT, hLw⟩ := id hI
  intro d hd f k
  have hn : ix (gI M 7 0) ≤ 120 := hT.1
  have ht : ∀ j, j < 120 → ix (gI M 8 j) < 256 := fun j hj => (hT.2.2 j hj).1
  have f16 : frD b 67 16 = true := by cases b <;> rfl
  have f78 : ∀ j, frD b 78 j = true := fun j => by cases b <;> rfl
  have f3 : ∀ j, frD b 3 j = true := fun j => by cases b <;> rfl
  have f8 : ∀ j, frD b 8 j = true := fun j => by cases b <;> rfl
  have ok := RD_ok (tp := gI M 8) (n := ix (gI M 7 0))
  refine k38 (tp := gI M 8) (by omega) hn rfl (fun z M1 hA1 h7 => ?_) (fun z M1 hA1 h7 hcd hls => ?_)
  all_goals
    have h16 : gI M1 67 16 = nI (ix (gI M 7 0)) := by rw [agr_nI hA1 f16, hT.2.1, n_ix]
    have h78 : ∀ j, j < 120 → gI M1 78 j = (gI M 8 j).toInt8.toInt32 := fun j hj => by rw [agr_nI hA1 (f78 j)]; exact (hT.2.2 j hj).2
    have e3 : gI M1 3 = gI M 3 := funext fun j => (hA1 3 j (f3 j)).1
  · refine k _ b M1 e3 (fun f2 k2 => k198 (by have := RD_ok (tp := gI M 8) (n := ix (gI M 7 0)); exact hn) ht (by omega) h16 h78 (fun _ N' hN' => k2 _ ?_ ?_) (fun z' => by rw [z] at z'; exact absurd z' (by decide)))
    · have F : agr (frF b) M (sI N' 67 16 0) := agr_t (agr_m leD hA1) (agr_sI (by unfold frF; cases pC b 67 16 <;> rfl) (agr_m leQ hN'))
      have g7 : gI N' 7 0 = 0 := (agr_nI hN' rfl).trans h7
      refine ⟨StatW_a (leF F (le_stat b) rfl rfl) hS, HimR_a (leF F (le_him b) rfl rfl) hH, VilR_a (leF F (le_vil b) rfl rfl) hV, SchR_a (leF F (le_sch b) rfl rfl) hSc, LedR_a (leF F (le_led b) rfl rfl) hL, ChgR_a (leF F (le_chg b) rfl rfl) hC, ActR_a (leF F (le_act b) rfl rfl) hA, ShfR_a (leF F (le_shf b) rfl rfl) hSh, ⟨?_, ?_, fun j hj => ?_⟩, LawR_a (leF F (le_law b) (by cases b <;> rfl) (by cases b <;> rfl)) hLw⟩
      · rw [gI_or (by decide), g7]; decide
      · rw [gI_s, gI_or (by decide), g7]
      · have a8 : gI (sI N' 67 16 0) 8 j = gI M 8 j := (F 8 j (by cases b <;> rfl)).1
        have a78 : gI (sI N' 67 16 0) 78 j = gI M 78 j := (F 78 j (by cases b <;> rfl)).1
        rw [a8, a78]
        exact hT.2.2 j hj
    · exact (funext fun j => (gI_or (by decide)).trans (hN' 3 j rfl).1).trans e3
  · refine k _ (!b) M1 e3 (fun f2 k2 => k198 hn ht (by omega) h16 h78 (fun z' => by rw [z] at z'; exact absurd z' (by decide)) (fun _ N' hN' g16 g28 g81 gsk glk _ => k2 N' ?_ ?_))
    · have A : ∀ q : Nat → Nat → Bool, (∀ j, q 7 j = false) → (∀ j, q 9 j = false) → (∀ j, q 10 j = false) → (∀ j, q 11 j = false) → (∀ j, q 12 j = false) → (∀ j, q 13 j = false) → (∀ j, q 14 j = false) → (∀ j, q 15 j = false) → (∀ j, q 16 j = false) → (∀ j, 16 ≤ j → j ≤ 28 → q 67 j = false) → (∀ j, q 79 j = false) → (∀ j, q 80 j = false) → (∀ j, q 81 j = false) → (∀ j, q 82 j = false) → (∀ j, q 83 j = false) → agr q M N' := by
        intro q h7 h9 h10 h11 h12 h13 h14 h15 h16 h67 h79 h80 h81 h82 h83
        have ne : ∀ r j a, q r j = true → q a j = false → Nat.beq r a = false := fun r j a h ha => beq_f (fun e => by rw [e, ha] at h; exact Bool.noConfusion h)
        refine agr_t (agr_m (fun r j h => ?_) hA1) (agr_m (fun r j h => ?_) hN')
        · unfold frD
          rw [ne r j 7 h (h7 j)]
          cases b with
          | true => rw [ne r j (dfC true) h (h9 j), ne r j (dfC true + 1) h (h10 j), ne r j (dfC true + 2) h (h11 j), ne r j (dfC true + 3) h (h12 j)]; rfl
          | false => rw [ne r j (dfC false) h (h13 j), ne r j (dfC false + 1) h (h14 j), ne r j (dfC false + 2) h (h15 j), ne r j (dfC false + 3) h (h16 j)]; rfl
        · unfold frSS
          unfold nin nin nin nin nin nin
          rw [ne r j 79 h (h79 j), ne r j 80 h (h80 j), ne r j 81 h (h81 j), ne r j 82 h (h82 j), ne r j 83 h (h83 j)]
          cases e : Nat.beq r 67 with
          | false => rfl
          | true =>
            have e1 := Nat.eq_of_beq_eq_true e
            subst e1
            cases e2 : Nat.ble 16 j with
            | false => rfl
            | true =>
              cases e3 : Nat.ble j 28 with
              | false => rfl
              | true =>
                rw [h67 j (Nat.le_of_ble_eq_true e2) (Nat.le_of_ble_eq_true e3)] at h
                exact absurd h (by decide)
      have w : ∀ j, 16 ≤ j → j ≤ 28 → j = 16 ∨ j = 17 ∨ j = 18 ∨ j = 19 ∨ j = 20 ∨ j = 21 ∨ j = 22 ∨ j = 23 ∨ j = 24 ∨ j = 25 ∨ j = 26 ∨ j = 27 ∨ j = 28 := by omega
      refine ⟨StatW_a (A _ ?_ ?_ ?_ ?_ ?_ ?_ ?_ ?_ ?_ ?_ ?_ ?_ ?_ ?_ ?_) hS, HimR_a (A _ ?_ ?_ ?_ ?_ ?_ ?_ ?_ ?_ ?_ ?_ ?_ ?_ ?_ ?_ ?_) hH, VilR_a (A _ ?_ ?_ ?_ ?_ ?_ ?_ ?_ ?_ ?_ ?_ ?_ ?_ ?_ ?_ ?_) hV, SchR_a (A _ ?_ ?_ ?_ ?_ ?_ ?_ ?_ ?_ ?_ ?_ ?_ ?_ ?_ ?_ ?_) hSc, LedR_a (A _ ?_ ?_ ?_ ?_ ?_ ?_ ?_ ?_ ?_ ?_ ?_ ?_ ?_ ?_ ?_) hL, ChgR_a (A _ ?_ ?_ ?_ ?_ ?_ ?_ ?_ ?_ ?_ ?_ ?_ ?_ ?_ ?_ ?_) hC, ActR_a (A _ ?_ ?_ ?_ ?_ ?_ ?_ ?_ ?_ ?_ ?_ ?_ ?_ ?_ ?_ ?_) hA, ShfR_a (A _ ?_ ?_ ?_ ?_ ?_ ?_ ?_ ?_ ?_ ?_ ?_ ?_ ?_ ?_ ?_) hSh, ?_, ?_⟩
      rotate_right 2
      · -- the tape
        have g7 : gI N' 7 0 = 0 := (agr_nI hN' rfl).trans h7
        refine ⟨by rw [g7]; decide, by rw [g16, g7], fun j hj => ?_⟩
        have a8 : gI N' 8 j = gI M 8 j := (agr_nI hN' rfl).trans (agr_nI hA1 (f8 j))
        have a78 : gI N' 78 j = gI M 78 j := (agr_nI hN' rfl).trans (agr_nI hA1 (f78 j))
        rw [a8, a78]
        exact hT.2.2 j hj
      · -- the law
        have hv := ok.2.2 z
        have ew : nwC (!b) = dfC b := by cases b <;> rfl
        have fs : ∀ i, i < 4 → ∀ j, frSS (dfC b + i) j = true := fun i hi j => by
          have : i = 0 ∨ i = 1 ∨ i = 2 ∨ i = 3 := by omega
          rcases this with e | e | e | e <;> subst e <;> cases b <;> rfl
        have eL : gI N' (dfC b) 4 = nI (RD (gI M 8) (ix (gI M 7 0))).2.2.2.length := (agr_nI hN' (fs 0 (by decide) 4)).trans hls.1
        have eLi : ix (gI N' (dfC b) 4) = (RD (gI M 8) (ix (gI M 7 0))).2.2.2.length := by rw [eL, ix_n (by omega)]
        have e2 : ∀ i, i < (RD (gI M 8) (ix (gI M 7 0))).2.2.2.length → gI N' (dfC b + 2) i = nI (lsB (RD (gI M 8) (ix (gI M 7 0))).2.2.2 i).1 ∧ gI N' (dfC b + 3) i = nI (lsB (RD (gI M 8) (ix (gI M 7 0))).2.2.2 i).2 := fun i hi => ⟨(agr_nI hN' (fs 2 (by decide) i)).trans (hls.2 i hi).1, (agr_nI hN' (fs 3 (by decide) i)).trans (hls.2 i hi).2⟩
        have e1 : ∀ j, j < (RD (gI M 8) (ix (gI M 7 0))).2.2.1.length → gI N' (dfC b + 1) j = (RD (gI M 8) (ix (gI M 7 0))).2.2.1.getD j 0 := fun j hj => (agr_nI hN' (fs 1 (by decide) j)).trans (hcd.2 j hj)
        have cl : (RD (gI M 8) (ix (gI M 7 0))).2.2.1.length ≤ 120 := by have := ok.1; have := ok.2.1; omega
        unfold LawR
        rw [ew]
        generalize (RD (gI M 8) (ix (gI M 7 0))).2.2.2 = ls at *
        generalize (RD (gI M 8) (ix (gI M 7 0))).2.2.1 = cd at *
        refine ⟨by rw [eLi]; exact hv.2.2, ?_, by rw [g81, eL], fun i hi => ?_⟩
        · rw [g28, eL]
          have : ¬ (nI ls.length : Int32) = 0 := fun e => by
            have := (ix_eq (n := 0) (by decide)).mp e
            rw [ix_n (by omega)] at this
            omega
          rw [decide_eq_false this]
          rfl
        · rw [eLi] at hi
          have lb := LV_b hv.1 hi
          have q := e2 i hi
          have i2 : ix (gI N' (dfC b + 2) i) = (lsB ls i).1 := by rw [q.1, ix_n (by omega)]
          have i3 : ix (gI N' (dfC b + 3) i) = (lsB ls i).2 := by rw [q.2, ix_n (by omega)]
          have st : lstart N' (dfC b) i = stN ls i := by
            cases i with
            | zero => rfl
            | succ i =>
              have lb2 := LV_b hv.1 (show i < ls.length by omega)
              show ix (gI N' (dfC b + 3) i) = (lsB ls i).2
              rw [(e2 i (by omega)).2, ix_n (by omega)]
          obtain ⟨pre, s1, s2, post, h1, h2, h3, h4, h5, h6⟩ := hv.1.2 i hi
          have len : cd.length = pre.length + (s1.length + (s2.length + post.length)) := by rw [h1, List.length_append, List.length_append, List.length_append]
          have g1 : ∀ j, j < s1.length → gI N' (dfC b + 1) (stN ls i + j) = s1.getD j 0 := by
            intro j hj
            rw [e1 _ (by omega), h1, ← h2, getD_r, getD_l hj]
          have g2 : ∀ j, j < s2.length → gI N' (dfC b + 1) ((lsB ls i).1 + j) = s2.getD j 0 := by
            intro j hj
            rw [e1 _ (by omega), h1, ← h3, ← h2, Nat.add_assoc, getD_r, getD_r, getD_l hj]
          refine ⟨⟨by rw [st, i2]; exact lb.1, by rw [i2, i3]; exact lb.2.1, by rw [i3]; omega, by rw [(glk i hi).1, q.1], by rw [(glk i hi).2, q.2], ?_, ?_⟩, fun k hk => ?_⟩
          · rw [st, i2]
            rcases h5 with h5 | h5
            · left
              rw [h5, List.length_nil] at h3
              omega
            · right
              rw [show (lsB ls i).1 - stN ls i = s1.length by omega, hrun_l s1 _ 0 g1]
              exact h5 0
          · rw [i2, i3, show (lsB ls i).2 - (lsB ls i).1 = s2.length by omega, hrun_l s2 _ 0 g2]
            exact h6 0
          · rw [i3] at hk
            rw [e1 k (by omega)]
            exact gsk k (by omega)
      all_goals first
        | exact fun _ => rfl
        | (intro j h1 h2; rcases w j h1 h2 with e | e | e | e | e | e | e | e | e | e | e | e | e <;> subst e <;> rfl)
    · exact (funext fun j => (hN' 3 j rfl).1).trans e3
end LAWQ
