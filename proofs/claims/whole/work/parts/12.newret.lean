/-! NEW CELLS, CALLS, ENDS -/
theorem hwd {args : Array Value} {s : State} (hts : ∀ w ∈ lw_g, w.before args s = true) (c : Nat) (h : c < NW) (h2 : (wQ c).1 ≠ 2) (h3 : (wQ c).1 ≠ 13) (h4 : (wQ c).1 ≠ 16) : (wT c).before args s = true := hts _ (wT_g h h2 h3 h4)
theorem ln_obj (r : Nat) (h : r < 107) (hk : kd r < 13) : ln r = (cq (kd r)).2.2 := by
  have : (List.range 107).all (fun r => !(Nat.blt (kd r) 13) || Nat.beq (ln r) (cq (kd r)).2.2) = true := by decide +kernel
  have h2 := List.all_eq_true.mp this r (List.mem_range.mpr h)
  have h3 : Nat.blt (kd r) 13 = true := Nat.ble_eq_true_of_le hk
  rw [h3] at h2
  exact Nat.eq_of_beq_eq_true h2
theorem cq_cnm (ci : Nat) (h : ci < 13) : (cq ci).1 = cnm ci := by
  revert ci
  exact (ok_s (ok_s (ok_s (ok_s (ok_s (ok_s (ok_s (ok_s (ok_s (ok_s (ok_s (ok_s (ok_s ok_z rfl) rfl) rfl) rfl) rfl) rfl) rfl) rfl) rfl) rfl) rfl) rfl) rfl)
theorem zI_ne {M : M2} {r r' : Nat} (h : r' ≠ r) : gI (zM M r) r' = gI M r' := by
  funext j
  simp [gI, zM, h]
theorem zL_ne {M : M2} {r r' : Nat} (h : r' ≠ r) : gL (zM M r) r' = gL M r' := by
  funext j
  simp [gL, zM, h]
theorem zR_ne {R : Rf} {r r' : Nat} (h : r' ≠ r) : zR R r r' = R r' := by
  funext j
  simp [zR, h]
theorem zI_eq {M : M2} {r : Nat} : gI (zM M r) r = fun _ => 0 := by
  funext j
  simp [gI, zM]
theorem zL_eq {M : M2} {r : Nat} : gL (zM M r) r = fun _ => 0 := by
  funext j
  simp [gL, zM]
theorem en_z {cy : Nat → ClassId} {ad : Nat → Nat} {M : Mm} {r r' : Nat} (h : r' ≠ r) : en cy ad (zR M.1 r, zM M.2 r) r' = en cy ad M r' := en_of (zR_ne h) (zI_ne h) (zL_ne h)
theorem bs_z {ad : Nat → Nat} {B : Nat} {s : State} {n : Nat} {M : Mm} {H : Heap} (hn : 4 ≤ n) (hB : Bs ad B M s H) : Bs ad B (zR M.1 n, zM M.2 n) s H := hB.of (fun _ _ => zI_ne (by omega))
theorem rKd_e {ad : Nat → Nat} {k : Nat} {f : List Value → Mm → Prop} {r : Option Value} {M : Mm} (h : rKd k f r M) : ∃ v, f v M ∧ (r.map (cv ad)).toList = v.map (cv ad) := by
  unfold rKd at h
  cases h0 : Nat.beq k 0 with
  | true =>
    rw [h0] at h
    cases r with
    | none => exact ⟨[], h, rfl⟩
    | some v => exact h.elim
  | false =>
    rw [h0] at h
    cases h2 : Nat.beq k 2 with
    | true =>
      rw [h2] at h
      cases r with
      | none => exact h.elim
      | some v => cases v <;> first | exact ⟨_, h, rfl⟩ | exact h.elim
    | false =>
      rw [h2] at h
      cases h3 : Nat.beq k 3 with
      | true =>
        rw [h3] at h
        cases r with
        | none => exact h.elim
        | some v => cases v <;> first | exact ⟨_, h, rfl⟩ | exact h.elim
      | false =>
        rw [h3] at h
        cases r with
        | none => exact h.elim
        | some v => cases v <;> first | exact ⟨_, h, rfl⟩ | exact h.elim
theorem cats_map (ad : Nat → Nat) (l : List Value) : ((l.map (cv ad)).map fun v => v.category).sum = cats l := by
  unfold cats
  rw [List.map_map]
  congr 2
  funext v
  exact cv_cat ad v
theorem good_g {y : MethodName} {b : ByteArray} {k : Nat} {r : Option FieldType} (h : Cond.code y b k r ∈ lw_g) : GoodIn lw_g (.code y b k r :: lw_g) := by
  intro w hw
  have hw2 : w ∈ lw_g := by
    rcases List.mem_cons.mp hw with rfl | q
    · exact h
    · exact q
  exact ⟨hw2, good_of_word (List.mem_filter.mp hw2).2⟩
section CALL
variable {p : Program} {l : Launch} {e : Env} {R : Room} {s : State} {m : MethodId} {args : Array Value} {below : List Frame} {meth : Method} {c : Code} {D : va_G} {cy : Nat → ClassId} {ad : Nat → Nat} {B d n0 nE mu : Nat} {Q : QT}
theorem W.num {H : Heap} {locs : List Loc} {k1 k2 n1 n2 : Nat} {Qf : State → Prop} {g : JFrame} (h1 : k1 = k2) (h2 : n1 = n2) (h : W p l e R s m args below meth c H locs k2 n2 Qf g) : W p l e R s m args below meth c H locs k1 n1 Qf g := by subst h1; subst h2; exact h
def newOp (i : Instr) : Bool := match i with
  | .new _ | .newarray _ | .anewarray _ => true
  | _ => false
/-- a new cell's place -/
theorem new_go {pc n q sz : Nat} {am st : List Value} {M : Mm} {H1 : Heap} {locs : List Loc} {ls : Array Slot} {x : va_E} {K : KT} (X : Cx p R s m args meth c D cy ad B d n0 nE mu) (hK : ∀ pc' am' st' n' M', K pc' am' st' n' M' → Go p l e R s m args below meth c D cy ad B n0 nE mu Q n' pc' am' st' M')
    (h : K pc am (.ref n :: st) (n + 1) (zR M.1 n, zM M.2 n)) (hE : en cy ad (zR M.1 n, zM M.2 n) n = x) (hsz : SS (n + 1) = SS n + sz) (hB : Bs ad B M s s.heap) (h0 : n0 ≤ n) (h1 : n + 1 ≤ nE) (hlen : am.length = mL mu) (hl : LR ad am ls)
    (hP1 : va_P D vwCl (wl cy ad n M ++ [(q, x)]) H1) (hD1 : va_D (fun q => B ≤ q) (wl cy ad n M ++ [(q, x)])) (hS1 : va_S (fun q => B ≤ q) s.heap H1 locs) :
    W p l e R s m args below meth c H1 locs (n - n0 + 1) (SS n - SS n0 + sz) (MQ below (Qp D cy ad B nE Q) args s (nE - n0) (SS nE - SS n0) (fun q => B ≤ q)) (F0 m pc ls (.ref q :: st.map (cv ad))) := by
  obtain ⟨-, -, -, -, -, -, -, -, -, -, -, -, hs0, hn4, -, -, -, -, -⟩ := id X
  intro T hT XT
  have hq := new_at X h0 hP1 hD1 hT XT
  subst hq
  have hE2 := wl_push (cy := cy) (ad := ad) (M := M) (show 4 ≤ n by omega) hE (fun r' hr' => en_z hr')
  rw [hE2] at hP1 hD1
  have h2 := hK _ _ _ _ _ h H1 locs ls hP1 hD1 hS1 (bs_z (by omega) hB) (by omega) h1 hlen hl
  exact W.num (by omega) (by have := SS_le h0; omega) h2 T hT XT
set_option maxHeartbeats 4000000 in
set_option maxRecDepth 100000 in
theorem step_new {o : Op} {pc n : Nat} {am st : List Value} {M : Mm} {K : KT} {C : CT} (X : Cx p R s m args meth c D cy ad B d n0 nE mu) (hok : okOp mu pc o = true) (hpl : newOp o.1 = true)
    (hK : ∀ pc' am' st' n' M', K pc' am' st' n' M' → Go p l e R s m args below meth c D cy ad B n0 nE mu Q n' pc' am' st' M') (h : stepW nE d n (rz mu) o K C Q am st M) : Go p l e R s m args below meth c D cy ad B n0 nE mu Q n pc am st M := by
  obtain ⟨hx, hb, hml, hown, hts, hret, hlocks, hname, hRf, hRl, hRc, hRs, hs0, hn4, hK0, hN, hA, hz, hNT⟩ := id X
  have hAq : ∀ q, s.heap.size ≤ q → B ≤ q := fun q hq => Nat.le_trans (ad_ge hA hn4) (by rw [← hs0]; exact hq)
  obtain ⟨i, nx, a, b, c0, v, w, cs⟩ := o
  cases i with
  | new x =>
    obtain ⟨hk, hnx, hd⟩ := ok3 hok
    have hnx := Nat.eq_of_beq_eq_true hnx
    subst hnx
    have hd := of_decide_eq_true hd
    obtain ⟨hw, ha⟩ := ok2 hk
    have ha := Nat.le_of_ble_eq_true ha
    intro H locs ls hP hD hS hB h0 h1 hlen hl
    replace h : bK (Nat.blt n nE && Nat.beq (kd n) a) (K (pc + 3) am (.ref n :: st) (n + 1) (zR M.1 n, zM M.2 n)) := h
    replace h := bK_e h
    obtain ⟨hb1, h⟩ := h
    obtain ⟨hnE, hkd⟩ := ok2 hb1
    have hnE := Nat.le_of_ble_eq_true hnE
    have hkd := Nat.eq_of_beq_eq_true hkd
    obtain ⟨ci, hci, hcq⟩ := iniC a ha
    obtain ⟨cj, hcj, hcT⟩ := initC a ha
    have hinst : (Cond.instantiable (cq a).1 (cq a).2.2).before args s = true := by
      have := hwd hts ci hci (by rw [hcq]; exact (show (11 : Nat) ≠ 2 by decide)) (by rw [hcq]; exact (show (11 : Nat) ≠ 13 by decide)) (by rw [hcq]; exact (show (11 : Nat) ≠ 16 by decide))
      unfold wT at this
      rw [hcq] at this
      exact this
    have hini : (Cond.initialized (cq a).1).before args s = true := by
      refine hts _ (List.mem_filter.mpr ⟨?_, rfl⟩)
      rw [← hcT]
      exact wT_in hcj
    have hln : ln n = (cq a).2.2 := by rw [← hkd]; exact ln_obj n (by omega) (by omega)
    have hSS : SS (n + 1) = SS n + (cq a).2.2 := by
      show SS n + (bif Nat.blt n 4 then 0 else ln n) = _
      rw [bl_c (by omega), hln]
    have := SS_le (show n + 1 ≤ nE from hnE)
    have := SS_le h0
    refine va_new (own := cnm (mo mu)) (C := (cq a).1) (T := (cq a).2.1) (N := (cq a).2.2) (fs := (List.range (cq a).2.2).map (fv ad (zR M.1 n, zM M.2 n) n)) hx hb hts (inC_g a ha) (cty a) (tyC a ha) hown (hts (wX c0 (3, mo mu, x, a, 0)) (wIs_g hw (show (3 : Nat) ≠ 2 by decide) (show (3 : Nat) ≠ 13 by decide) (show (3 : Nat) ≠ 16 by decide))) hinst hini hK0 hP hD hS hAq (clC a ha) ?_ (by omega) (by omega) hd (fun q H1 hP1 hD1 hS1 => ?_)
    · intro j hj
      unfold vp_V
      rw [List.getD_eq_getElem?_getD, List.getElem?_map, List.getElem?_range hj, Option.map_some, Option.getD_some]
      unfold fv
      rw [hkd, zI_eq]
      rcases fk_ty a j ha hj with ⟨e1, e2⟩ | ⟨e1, e2⟩ | ⟨⟨t, e1⟩ | ⟨t, e1⟩, e2⟩
      · rw [e1, e2]; rfl
      · rw [e1, e2]; rfl
      · rw [e1, e2]; simp [zR, va_rf, defaultValue]
      · rw [e1, e2]; simp [zR, va_rf, defaultValue]
    · exact new_go X hK h (en_obj hkd ha) hSS hB h0 (by omega) hlen hl hP1 hD1 hS1
  | newarray t =>
    obtain ⟨hk, hnx, hd⟩ := ok3 hok
    have hnx := Nat.eq_of_beq_eq_true hnx
    subst hnx
    have hd := of_decide_eq_true hd
    intro H locs ls hP hD hS hB h0 h1 hlen hl
    replace h : bK (Nat.blt n nE && Nat.beq (kd n) a) (pI st (fun x r => bK (Nat.beq (ix x) (ln n)) (K (pc + 2) am (.ref n :: r) (n + 1) (zR M.1 n, zM M.2 n)))) := h
    replace h := bK_e h
    obtain ⟨hb1, h⟩ := h
    obtain ⟨hnE, hkd⟩ := ok2 hb1
    have hnE := Nat.le_of_ble_eq_true hnE
    have hkd := Nat.eq_of_beq_eq_true hkd
    replace h := pI_e h
    obtain ⟨x, r, rfl, h⟩ := h
    replace h := bK_e h
    obtain ⟨hix, h⟩ := h
    have hix := Nat.eq_of_beq_eq_true hix
    have hl4 := ln_lt n
    obtain ⟨hi1, hi2⟩ := ix_in (i := x) (n := 4001) (by omega) (by decide)
    rw [hix] at hi2
    have hneg : ¬ x < 0 := fun q => hi1 (Or.inl q)
    have hSS : SS (n + 1) = SS n + ln n := by
      show SS n + (bif Nat.blt n 4 then 0 else ln n) = _
      rw [bl_c (by omega)]
    have := SS_le (show n + 1 ≤ nE from hnE)
    have := SS_le h0
    cases t with
    | int =>
      have hk : a = 20 := Nat.eq_of_beq_eq_true hk
      subst hk
      refine va_newa (atype := .int) (ty := .int) (a0 := (ln n, .inl (fun _ => 0))) hx hb (hwd hts 199 (by decide) (by decide +kernel) (by decide +kernel) (by decide +kernel)) rfl hK0 hP hD hS hAq (fun cA => rfl) hneg hi2 (Nat.le_trans (Nat.mul_le_mul_right _ hl4) (by decide)) (by omega) (by omega) hd (fun q cA H1 hK1 hP1 hD1 hS1 => ?_)
      have e1 := (hK1.2 5 (cA, .int) rfl).2
      have e2 := (hK0.2 0 (cy 20, .int) rfl).2
      have e3 : cA = cy 20 := Option.some.inj (Eq.trans (Eq.symm e1) e2)
      subst e3
      exact new_go X hK h (by rw [en_i hkd (by omega), zI_eq]) hSS hB h0 (by omega) hlen hl hP1 hD1 hS1
    | byte =>
      have hk : a = 21 := Nat.eq_of_beq_eq_true hk
      subst hk
      refine va_newa (atype := .byte) (ty := .byte) (a0 := (ln n, .inl (fun _ => 0))) hx hb (hwd hts 1062 (by decide) (by decide +kernel) (by decide +kernel) (by decide +kernel)) rfl hK0 hP hD hS hAq (fun cA => rfl) hneg hi2 (Nat.le_trans (Nat.mul_le_mul_right _ hl4) (by decide)) (by omega) (by omega) hd (fun q cA H1 hK1 hP1 hD1 hS1 => ?_)
      have e1 := (hK1.2 5 (cA, .byte) rfl).2
      have e2 := (hK0.2 1 (cy 21, .byte) rfl).2
      have e3 : cA = cy 21 := Option.some.inj (Eq.trans (Eq.symm e1) e2)
      subst e3
      exact new_go X hK h (by rw [en_i hkd (by omega), zI_eq]) hSS hB h0 (by omega) hlen hl hP1 hD1 hS1
    | short =>
      have hk : a = 22 := Nat.eq_of_beq_eq_true hk
      subst hk
      refine va_newa (atype := .short) (ty := .short) (a0 := (ln n, .inl (fun _ => 0))) hx hb (hwd hts 1063 (by decide) (by decide +kernel) (by decide +kernel) (by decide +kernel)) rfl hK0 hP hD hS hAq (fun cA => rfl) hneg hi2 (Nat.le_trans (Nat.mul_le_mul_right _ hl4) (by decide)) (by omega) (by omega) hd (fun q cA H1 hK1 hP1 hD1 hS1 => ?_)
      have e1 := (hK1.2 5 (cA, .short) rfl).2
      have e2 := (hK0.2 2 (cy 22, .short) rfl).2
      have e3 : cA = cy 22 := Option.some.inj (Eq.trans (Eq.symm e1) e2)
      subst e3
      exact new_go X hK h (by rw [en_i hkd (by omega), zI_eq]) hSS hB h0 (by omega) hlen hl hP1 hD1 hS1
    | long =>
      have hk : a = 23 := Nat.eq_of_beq_eq_true hk
      subst hk
      refine va_newa (atype := .long) (ty := .long) (a0 := (ln n, .inr (.inl (fun _ => 0)))) hx hb (hwd hts 314 (by decide) (by decide +kernel) (by decide +kernel) (by decide +kernel)) rfl hK0 hP hD hS hAq (fun cA => rfl) hneg hi2 (Nat.le_trans (Nat.mul_le_mul_right _ hl4) (by decide)) (by omega) (by omega) hd (fun q cA H1 hK1 hP1 hD1 hS1 => ?_)
      have e1 := (hK1.2 5 (cA, .long) rfl).2
      have e2 := (hK0.2 3 (cy 23, .long) rfl).2
      have e3 : cA = cy 23 := Option.some.inj (Eq.trans (Eq.symm e1) e2)
      subst e3
      exact new_go X hK h (by rw [en_l hkd, zL_eq]) hSS hB h0 (by omega) hlen hl hP1 hD1 hS1
    | _ => cases hk
  | anewarray x =>
    obtain ⟨hk, hnx, hd⟩ := ok3 hok
    have hnx := Nat.eq_of_beq_eq_true hnx
    subst hnx
    have hd := of_decide_eq_true hd
    intro H locs ls hP hD hS hB h0 h1 hlen hl
    replace h : bK (Nat.blt n nE && Nat.beq (kd n) 24) (pI st (fun x r => bK (Nat.beq (ix x) (ln n)) (K (pc + 3) am (.ref n :: r) (n + 1) (zR M.1 n, zM M.2 n)))) := h
    replace h := bK_e h
    obtain ⟨hb1, h⟩ := h
    obtain ⟨hnE, hkd⟩ := ok2 hb1
    have hnE := Nat.le_of_ble_eq_true hnE
    have hkd := Nat.eq_of_beq_eq_true hkd
    replace h := pI_e h
    obtain ⟨y, r, rfl, h⟩ := h
    replace h := bK_e h
    obtain ⟨hix, h⟩ := h
    have hix := Nat.eq_of_beq_eq_true hix
    have hl4 := ln_lt n
    obtain ⟨hi1, hi2⟩ := ix_in (i := y) (n := 4001) (by omega) (by decide)
    rw [hix] at hi2
    have hneg : ¬ y < 0 := fun q => hi1 (Or.inl q)
    have hSS : SS (n + 1) = SS n + ln n := by
      show SS n + (bif Nat.blt n 4 then 0 else ln n) = _
      rw [bl_c (by omega)]
    have := SS_le (show n + 1 ≤ nE from hnE)
    have := SS_le h0
    refine va_newq (C := (cq 9).1) (own := cnm (mo mu)) hx hb hown (hts (wX c0 (3, mo mu, x, 9, 0)) (wIs_g hk (show (3 : Nat) ≠ 2 by decide) (show (3 : Nat) ≠ 13 by decide) (show (3 : Nat) ≠ 16 by decide))) hN.2 hK0 hP hD hS hAq hneg hi2 (by omega) (by omega) (by omega) hd (fun q cA H1 hK1 hP1 hD1 hS1 => ?_)
    obtain ⟨kA, comp, -, -, -, e1⟩ := (hK1.2 5 (cA, .object (cq 9).1) rfl).2
    obtain ⟨kA', comp', -, -, -, e2⟩ := (hK0.2 4 (cy 24, .object (cq 9).1) rfl).2
    have e3 : cA = cy 24 := Option.some.inj (Eq.trans (Eq.symm e1) e2)
    subst e3
    refine new_go X hK h ?_ hSS hB h0 (by omega) hlen hl hP1 hD1 hS1
    rw [en_q hkd]
    congr 7
    funext j
    simp [zR]
  | _ => exact (Bool.false_ne_true hpl).elim
def retOp (i : Instr) : Bool := match i with
  | .ireturn | .lreturn | .areturn | .return_ => true
  | _ => false
set_option maxHeartbeats 4000000 in
set_option maxRecDepth 100000 in
theorem step_ret {o : Op} {pc n : Nat} {am st : List Value} {M : Mm} {K : KT} {C : CT} (X : Cx p R s m args meth c D cy ad B d n0 nE mu) (hok : okOp mu pc o = true) (hpl : retOp o.1 = true)
    (h : stepW nE d n (rz mu) o K C Q am st M) : Go p l e R s m args below meth c D cy ad B n0 nE mu Q n pc am st M := by
  obtain ⟨hx, hb, hml, hown, hts, hret, hlocks, hname, hRf, hRl, hRc, hRs, hs0, hn4, hK0, hN, hA, hz, hNT⟩ := id X
  obtain ⟨i, nx, a, b, c0, v, w, cs⟩ := o
  intro H locs ls hP hD hS hB h0 h1 hlen hl T hT XT
  have hsz := size_of X hP hS h0 hT XT
  cases i with
  | ireturn =>
    have hok : (okB mu pc .ireturn nx a b c0 v w cs && (Nat.beq nx (pc + len1 .ireturn) && decide (decode (Bc mu) pc = .ok (.ireturn, len1 .ireturn)))) = true := hok
    obtain ⟨-, -, hd⟩ := ok3 hok
    have hd := of_decide_eq_true hd
    replace h := bK_e h
    obtain ⟨hnn, h⟩ := h
    have hnn := Nat.eq_of_beq_eq_true hnn
    subst hnn
    split at h
    · rename_i x
      have hh : ∃ ty, Rt mu = some ty ∧ narrow ty (.int x) = .int x ∧ Q (some (.int x)) M := by
        cases hz4 : Nat.beq (rz mu) 4 with
        | true =>
          rw [hz4] at h
          replace h := iK_e h
          obtain ⟨h5, h⟩ := h
          have hz5 := Nat.eq_of_beq_eq_true hz4
          rw [hz5] at hz
          have hx01 : x = 0 ∨ x = 1 := by
            rcases (show ix x = 0 ∨ ix x = 1 by omega) with q | q
            · left; rw [← ofNat_ix x, q]; rfl
            · right; rw [← ofNat_ix x, q]; rfl
          cases hrt : Rt mu with
          | none => rw [hrt] at hz; cases hz
          | some ty =>
            rw [hrt] at hz
            cases ty <;> first | cases hz | skip
            exact ⟨.boolean, rfl, by rcases hx01 with rfl | rfl <;> rfl, h⟩
        | false =>
          rw [hz4] at h
          replace h := bK_e h
          obtain ⟨h5, h⟩ := h
          have hz5 := Nat.eq_of_beq_eq_true h5
          rw [hz5] at hz
          cases hrt : Rt mu with
          | none => rw [hrt] at hz; cases hz
          | some ty =>
            rw [hrt] at hz
            cases ty <;> first | cases hz | skip
            exact ⟨.int, rfl, rfl, h⟩
      obtain ⟨ty, hty, hnar, h⟩ := hh
      exact W.zret (ty := ty) hx hb (by rw [hret, hty]) hnar (fun t ht hW => ⟨some (.int x), M, rfl, h, rp_of X hP hD hS hB h0 ht hW hsz, hS.F ht⟩) hS.2.2 hd hlocks T hT XT
    · exact h.elim
  | lreturn =>
    have hok : (okB mu pc .lreturn nx a b c0 v w cs && (Nat.beq nx (pc + len1 .lreturn) && decide (decode (Bc mu) pc = .ok (.lreturn, len1 .lreturn)))) = true := hok
    obtain ⟨-, -, hd⟩ := ok3 hok
    have hd := of_decide_eq_true hd
    replace h := bK_e h
    obtain ⟨hnn, h⟩ := h
    have hnn := Nat.eq_of_beq_eq_true hnn
    subst hnn
    split at h
    · rename_i x
      replace h := bK_e h
      obtain ⟨h5, h⟩ := h
      have hz5 := Nat.eq_of_beq_eq_true h5
      rw [hz5] at hz
      have hrt : Rt mu = some .long := by
        cases hrt : Rt mu with
        | none => rw [hrt] at hz; cases hz
        | some ty =>
          rw [hrt] at hz
          cases ty <;> first | rfl | cases hz
      exact W.lret hx hb (by rw [hret, hrt]) (fun t ht hW => ⟨some (.long x), M, rfl, h, rp_of X hP hD hS hB h0 ht hW hsz, hS.F ht⟩) hS.2.2 hd hlocks T hT XT
    · exact h.elim
  | areturn =>
    have hok : (okB mu pc .areturn nx a b c0 v w cs && (Nat.beq nx (pc + len1 .areturn) && decide (decode (Bc mu) pc = .ok (.areturn, len1 .areturn)))) = true := hok
    obtain ⟨-, -, hd⟩ := ok3 hok
    have hd := of_decide_eq_true hd
    replace h := bK_e h
    obtain ⟨hnn, h⟩ := h
    have hnn := Nat.eq_of_beq_eq_true hnn
    subst hnn
    have hrt : Nat.beq (rz mu) 3 = true → ∃ rt, Rt mu = some rt ∧ ((∃ n, rt = .object n) ∨ ∃ t, rt = .array t) := by
      intro h5
      have hz5 := Nat.eq_of_beq_eq_true h5
      rw [hz5] at hz
      cases hrt : Rt mu with
      | none => rw [hrt] at hz; cases hz
      | some ty =>
        rw [hrt] at hz
        cases ty <;> first | exact ⟨_, rfl, Or.inl ⟨_, rfl⟩⟩ | exact ⟨_, rfl, Or.inr ⟨_, rfl⟩⟩ | cases hz
    split at h
    · rename_i x
      replace h := bK_e h
      obtain ⟨h5, h⟩ := h
      obtain ⟨rt, e1, e2⟩ := hrt h5
      exact W.aret (v := .ref (ad x)) hx hb (by rw [hret, e1]) e2 (Or.inr ⟨_, rfl⟩) (fun t ht hW => ⟨some (.ref x), M, rfl, h, rp_of X hP hD hS hB h0 ht hW hsz, hS.F ht⟩) hS.2.2 hd hlocks T hT XT
    · replace h := bK_e h
      obtain ⟨h5, h⟩ := h
      obtain ⟨rt, e1, e2⟩ := hrt h5
      exact W.aret (v := .null) hx hb (by rw [hret, e1]) e2 (Or.inl rfl) (fun t ht hW => ⟨some .null, M, rfl, h, rp_of X hP hD hS hB h0 ht hW hsz, hS.F ht⟩) hS.2.2 hd hlocks T hT XT
    · exact h.elim
  | return_ =>
    have hok : (okB mu pc .return_ nx a b c0 v w cs && (Nat.beq nx (pc + len1 .return_) && decide (decode (Bc mu) pc = .ok (.return_, len1 .return_)))) = true := hok
    obtain ⟨-, -, hd⟩ := ok3 hok
    have hd := of_decide_eq_true hd
    replace h := bK_e h
    obtain ⟨hnn, h⟩ := h
    have hnn := Nat.eq_of_beq_eq_true hnn
    subst hnn
    split at h
    · replace h := bK_e h
      obtain ⟨h5, h⟩ := h
      have hz5 := Nat.eq_of_beq_eq_true h5
      rw [hz5] at hz
      have hrt : Rt mu = none := by
        cases hrt : Rt mu with
        | none => rfl
        | some ty =>
          rw [hrt] at hz
          cases ty <;> cases hz
      exact W.vret hx hb (by rw [hret, hrt]) (fun t ht hW => ⟨none, M, rfl, h, rp_of X hP hD hS hB h0 ht hW hsz, hS.F ht⟩) hS.2.2 hd hlocks T hT XT
    · exact h.elim
  | _ => exact (Bool.false_ne_true hpl).elim
end CALL
