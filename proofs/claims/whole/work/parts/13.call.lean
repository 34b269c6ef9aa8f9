/-! CALLS -/
theorem okm {a : Nat} (ha : a < 303) (ho : mo a < 15) : wIs (wC a) (6, 0, 0, a, 0) = true ∧ wIs (wI a) (bif mS a then 8 else 7, 0, 0, a, 0) = true ∧ (mS a || (decide (mnm a = "<init>") || wIs (wS a) (9, 0, 0, a, 0))) = true ∧ wIs (wN a) (10, mo a, 0, 0, 0) = true ∧ (parseMethodDescriptor (mds a)).map (fun d => d.parameters.length) = some (mN a) ∧ mL a ≤ 40 ∧ okR (rz a) (Rt a) = true ∧ (mS a || Nat.beq (mc a) (mo a)) = true := by
  have h := List.all_eq_true.mp okM_all a (List.mem_range.mpr ha)
  unfold okM at h
  rcases Bool.or_eq_true _ _ ▸ h with q | q
  · have q := Nat.eq_of_beq_eq_true q
    subst q
    exact absurd ho (by decide +kernel)
  · simp only [Bool.and_eq_true] at q
    obtain ⟨q1, q2, q3, q4, q5, q6, q7, q8⟩ := q
    exact ⟨q1, q2, q3, q4, of_decide_eq_true q5, Nat.le_of_ble_eq_true q6, q7, q8⟩
theorem cnm_ok (c : Nat) (h : c < 15) : plainName (cnm c) = true ∧ cnm c ≠ "java/lang/invoke/MethodHandle" ∧ cnm c ≠ "java/lang/invoke/VarHandle" := by
  have h := List.all_eq_true.mp okN_all c (List.mem_range.mpr h)
  obtain ⟨h1, h2, h3⟩ := ok3 h
  exact ⟨h1, of_decide_eq_true h2, of_decide_eq_true h3⟩
theorem rcK_e {n c : Nat} {st : List Value} {P : Prop} (h : rcK n c st P) : ∃ (r : Nat) (rest : List Value), st = .ref r :: rest ∧ r < n ∧ kd r = c ∧ P := by
  unfold rcK at h
  split at h
  · obtain ⟨h1, h2, h3⟩ := oK_e h
    exact ⟨_, _, rfl, h1, h2, h3⟩
  · exact h.elim
theorem callK_e {nE d n mu k nx : Nat} {st ls : List Value} {K : KT} {C : CT} {M : Mm} (h : callK nE d n mu k st K C nx ls M) : ∃ d', d = d' + 1 ∧ k ≤ st.length ∧ cats (st.drop k) ≤ 8 ∧ n + mA mu ≤ nE ∧ (argL (st.take k).reverse).length ≤ mL mu ∧ C d' (n + mA mu) mu (lcl mu (st.take k).reverse) n M (rKd (rz mu) (rF (fx mu) M.1 (fun v M' => K nx ls (v ++ st.drop k) (n + mA mu) M'))) := by
  cases d with
  | zero => exact h.elim
  | succ d =>
    obtain ⟨h1, h⟩ := bK_e h
    simp only [Bool.and_eq_true] at h1
    obtain ⟨q1, q2, q3, q4⟩ := h1
    exact ⟨d, rfl, Nat.le_of_ble_eq_true q1, Nat.le_of_ble_eq_true q2, Nat.le_of_ble_eq_true q3, Nat.le_of_ble_eq_true q4, h⟩
theorem rp_blind {D : va_G} {cy : Nat → ClassId} {ad : Nat → Nat} {B n : Nat} {M : Mm} {av : List Value} (hA : Ag ad B) : FrameBlind (va_Pc av (Rp D cy ad B n M)) := by
  intro a U g mk q
  obtain ⟨q0, q1, q2, q3, q4, q5, q6, q7⟩ := q
  exact ⟨q0, q1, va_K.moved (u := U) (U := U.calling g mk a) (Vm.Alike.refl U.vm) q2, q3, q4, q5.moved (U := U.calling g mk a) (Vm.Alike.refl U.vm) hA (by rw [q1]; exact ad_ge hA q7) (fun _ _ _ => rfl), q6.warm (U := U.calling g mk a) (State.WarmedH.refl U), q7⟩
section CALL2
variable {p : Program} {l : Launch} {e : Env} {R : Room} {s : State} {m : MethodId} {args : Array Value} {below : List Frame} {meth : Method} {c : Code} {D : va_G} {cy : Nat → ClassId} {ad : Nat → Nat} {B d n0 nE mu : Nat} {Q : QT}
theorem call_go {k1 k2 mc ms pc n' : Nat} {H : Heap} {locs : List Loc} {ls : Array Slot} {st0 rest : List Value} {Qf : State → Prop} {Q' : QT} {a0 : Array Value} (X : Cx p R s m args meth c D cy ad B d n0 nE mu)
    (hr : va_Run p l e R s m args below meth c H locs k1 k2 mc ms (F0 m pc ls st0) rest (Qp D cy ad B n' Q' a0) (fun q => B ≤ q)) (hS : va_S (fun q => B ≤ q) s.heap H locs)
    (kk : ∀ (r : Option Value) (M' : Mm) (H1 : Heap) (locs1 : List Loc), Q' r M' → va_P D vwCl (wl cy ad n' M') H1 → va_D (fun q => B ≤ q) (wl cy ad n' M') → va_S (fun q => B ≤ q) s.heap H1 locs1 → Bs ad B M' s s.heap → W p l e R s m args below meth c H1 locs1 (k1 + mc) (k2 + ms) Qf (F0 m (pc + 3) ls ((r.map (cv ad)).toList ++ rest))) :
    W p l e R s m args below meth c H locs k1 k2 Qf (F0 m pc ls st0) := by
  obtain ⟨-, -, -, -, -, -, -, -, -, -, -, -, hs0, hn4, hK0, hN, hA, hz, hNT⟩ := id X
  intro T hT XT
  obtain ⟨v, st1', t, T', L, e1, X', hL, e2, e3, ⟨r, M', ho, hq, hrep, hF⟩, hgo⟩ := hr T hT XT
  have hv : v = r.map (cv ad) := Outcome.returned.inj ho
  subst hv
  obtain ⟨hsz, hK', hP', hD', hB', -, h4⟩ := hrep
  have hvm : t.vm.Alike s.vm := by
    rw [← e3]
    exact X'.warmed.alike.symm
  have hBs : B ≤ s.heap.size := by rw [hs0]; exact ad_ge hA hn4
  have hS1 : va_S (fun q => B ≤ q) s.heap t.heap (locs ++ L) := by
    obtain ⟨f1, f2⟩ := hF
    rw [e1] at f1 f2
    refine ⟨Nat.le_trans hS.1 f1, fun q h1 h2 => (f2 q (Nat.lt_of_lt_of_le h1 hS.1) h2).trans (hS.2.1 q h1 h2), fun x hx => ?_⟩
    rcases List.mem_append.mp hx with h5 | h5
    · exact hS.2.2 x h5
    · exact hL x h5
  have hB1 : Bs ad B M' s s.heap := hB'.moved hvm hA (Nat.le_trans hBs hS1.1) (fun q _ h2 => (hS1.2.1 q (Nat.lt_of_lt_of_le (Nat.not_le.mp h2) hBs) h2).symm)
  obtain ⟨t2, a2, b2⟩ := kk r M' t.heap (locs ++ L) hq hP' hD' hS1 hB1 T' e2 X'
  exact ⟨t2, hgo t2 a2, b2⟩
/-- behind a call -/
theorem call_end {pc n a : Nat} {am dr : List Value} {R0 : Rf} {K : KT} {locs1 : List Loc} {ls : Array Slot} {H1 : Heap} {r : Option Value} {M' : Mm} (hK : ∀ pc' am' st' n' M', K pc' am' st' n' M' → Go p l e R s m args below meth c D cy ad B n0 nE mu Q n' pc' am' st' M')
    (hq : rKd (rz a) (rF (fx a) R0 (fun v M' => K pc am (v ++ dr) (n + mA a) M')) r M') (h0 : n0 ≤ n) (h1 : n + mA a ≤ nE) (hlen : am.length = mL mu) (hl : LR ad am ls) (hP : va_P D vwCl (wl cy ad (n + mA a) M') H1) (hD : va_D (fun q => B ≤ q) (wl cy ad (n + mA a) M')) (hS : va_S (fun q => B ≤ q) s.heap H1 locs1) (hB : Bs ad B M' s s.heap) :
    W p l e R s m args below meth c H1 locs1 (n - n0 + mA a) (SS n - SS n0 + (SS (n + mA a) - SS n)) (MQ below (Qp D cy ad B nE Q) args s (nE - n0) (SS nE - SS n0) (fun q => B ≤ q)) (F0 m pc ls ((r.map (cv ad)).toList ++ dr.map (cv ad))) := by
  obtain ⟨v, hv, e⟩ := rKd_e (ad := ad) hq
  have h2 := hK _ _ _ _ _ (rF_e hv) H1 locs1 ls hP hD hS hB (by omega) h1 hlen hl
  rw [List.map_append, ← e] at h2
  have := SS_le h0
  have := SS_le (show n ≤ n + mA a by omega)
  exact W.num (by omega) (by omega) h2
theorem rp_in {n : Nat} {M : Mm} {H : Heap} {locs : List Loc} (X : Cx p R s m args meth c D cy ad B d n0 nE mu) (hP : va_P D vwCl (wl cy ad n M) H) (hD : va_D (fun q => B ≤ q) (wl cy ad n M)) (hS : va_S (fun q => B ≤ q) s.heap H locs) (hB : Bs ad B M s s.heap) (h0 : n0 ≤ n) (hsz : H.size = ad n) (av : List Value) (U : State) (hU : U.heap = H) (hW : s.WarmedH U.vm) : va_Pc av (Rp D cy ad B n M) av.toArray U :=
  ⟨rfl, rp_of X hP hD hS hB h0 hU hW hsz⟩
theorem callB_a {x a d' n : Nat} (hts : ∀ w ∈ lw_g, w.before args s = true) (ha : a < 303) (ho : mo a < 15) (hl : (Cond.methodLink (cnm (mo mu)) x (Yn a)).before args s = true) (hd : d' + 1 ≤ R.frames) (hlo : 64 * (d' + 1) ≤ R.locals) :
    CallB R s args (cnm (mo mu)) x (Yn a) (Bc a) (mL a) (Rt a) (.code (Yn a) (Bc a) (mL a) (Rt a) :: lw_g) ({ frames := d', cells := mA a, slots := SS (n + mA a) - SS n, locals := 64 * d' } : Room) (mA a) (SS (n + mA a) - SS n) (mN a) := by
  obtain ⟨q1, q2, q3, q4, q5, q6, q7, q8⟩ := okm ha ho
  have hc := wIs_g q1 (show (6 : Nat) ≠ 2 by decide) (show (6 : Nat) ≠ 13 by decide) (show (6 : Nat) ≠ 16 by decide)
  have hi := hts _ (wIs_g q4 (show (10 : Nat) ≠ 2 by decide) (show (10 : Nat) ≠ 13 by decide) (show (10 : Nat) ≠ 16 by decide))
  exact callB_of (mN a) hts (good_g hc) rfl rfl rfl hi hl ⟨(cnm_ok _ ho).2.1, (cnm_ok _ ho).2.2, q5⟩ ⟨hd, by show 8 + (mL a + 11) + 64 * d' ≤ R.locals; omega⟩
theorem callN_a {x a d' n : Nat} (hts : ∀ w ∈ lw_g, w.before args s = true) (ha : a < 303) (ho : mo a < 15) (hl : va_Nw (Cond.methodLinkNest (cnm (mo mu)) x (Yn a) "StyliteOverheard") s) (hd : d' + 1 ≤ R.frames) (hlo : 64 * (d' + 1) ≤ R.locals) :
    va_CN R s args (cnm (mo mu)) x (Yn a) "StyliteOverheard" (Bc a) (mL a) (Rt a) (.code (Yn a) (Bc a) (mL a) (Rt a) :: lw_g) ({ frames := d', cells := mA a, slots := SS (n + mA a) - SS n, locals := 64 * d' } : Room) (mA a) (SS (n + mA a) - SS n) (mN a) := by
  obtain ⟨q1, q2, q3, q4, q5, q6, q7, q8⟩ := okm ha ho
  have hc := wIs_g q1 (show (6 : Nat) ≠ 2 by decide) (show (6 : Nat) ≠ 13 by decide) (show (6 : Nat) ≠ 16 by decide)
  have hi := hts _ (wIs_g q4 (show (10 : Nat) ≠ 2 by decide) (show (10 : Nat) ≠ 13 by decide) (show (10 : Nat) ≠ 16 by decide))
  exact va_cnB (mN a) hts (good_g hc) rfl rfl rfl hl hi ⟨(cnm_ok _ ho).2.1, (cnm_ok _ ho).2.2, q5⟩ ⟨hd, by show 8 + (mL a + 11) + 64 * d' ≤ R.locals; omega⟩
theorem nest_w {c0 x a : Nat} (hN : Nx s) (h : wIs c0 (2, mo mu, x, a, 0) = true) : va_Nw (Cond.methodLinkNest (cnm (mo mu)) x (Yn a) "StyliteOverheard") s := by
  have h2 := hN.1 c0 (wIs_eq h).1 (by rw [(wIs_eq h).2])
  rw [wIs_T h] at h2
  exact h2
theorem split_st {st : List Value} {k r : Nat} {rest : List Value} (h : st.drop k = .ref r :: rest) : k ≤ st.length ∧ st.drop (k + 1) = rest ∧ (st.take (k + 1)).reverse = .ref r :: (st.take k).reverse ∧ ∀ ad : Nat → Nat, st.map (cv ad) = ((st.take k).reverse.map (cv ad)).reverse ++ .ref (ad r) :: rest.map (cv ad) := by
  have hlt : k < st.length := by
    rcases Nat.lt_or_ge k st.length with q | q
    · exact q
    · rw [List.drop_eq_nil_of_le q] at h; cases h
  have hg : st[k]? = some (.ref r) := by
    have := congrArg (fun l => l[0]?) h
    simpa [List.getElem?_drop] using this
  refine ⟨Nat.le_of_lt hlt, ?_, ?_, fun ad => ?_⟩
  · have := congrArg List.tail h
    simpa [List.tail_drop] using this
  · rw [List.take_add_one, hg]
    simp
  · conv => lhs; rw [← List.take_append_drop k st, h]
    simp [cv]
theorem split_s {st : List Value} {k : Nat} (ad : Nat → Nat) : st.map (cv ad) = ((st.take k).reverse.map (cv ad)).reverse ++ (st.drop k).map (cv ad) := by
  conv => lhs; rw [← List.take_append_drop k st]
  simp
theorem cpK_e {n q0 q1 : Nat} {M : Mm} {f : Mm → Prop} {sp dp cn : Int32} (h : cpK n q0 q1 M f sp dp cn) : q0 < n ∧ q1 < n ∧ ix sp + ix cn ≤ ln q0 ∧ ix dp + ix cn ≤ ln q1 ∧ ((kd q0 = 20 ∧ kd q1 = 20 ∧ f (M.1, cI M.2 q0 (ix sp) q1 (ix dp) (ix cn))) ∨ (kd q0 = 23 ∧ kd q1 = 23 ∧ f (M.1, cL M.2 q0 (ix sp) q1 (ix dp) (ix cn)))) := by
  unfold cpK at h
  cases h1 : (Nat.blt q0 n && (Nat.blt q1 n && (Nat.beq (kd q0) 20 && Nat.beq (kd q1) 20))) with
  | true =>
    rw [h1] at h
    simp only [Bool.and_eq_true] at h1
    obtain ⟨a1, a2, a3, a4⟩ := h1
    exact ⟨Nat.le_of_ble_eq_true a1, Nat.le_of_ble_eq_true a2, h.1, h.2.1, Or.inl ⟨Nat.eq_of_beq_eq_true a3, Nat.eq_of_beq_eq_true a4, h.2.2⟩⟩
  | false =>
    rw [h1] at h
    cases h2 : (Nat.blt q0 n && (Nat.blt q1 n && (Nat.beq (kd q0) 23 && Nat.beq (kd q1) 23))) with
    | true =>
      rw [h2] at h
      simp only [Bool.and_eq_true] at h2
      obtain ⟨a1, a2, a3, a4⟩ := h2
      exact ⟨Nat.le_of_ble_eq_true a1, Nat.le_of_ble_eq_true a2, h.1, h.2.1, Or.inr ⟨Nat.eq_of_beq_eq_true a3, Nat.eq_of_beq_eq_true a4, h.2.2⟩⟩
    | false => rw [h2] at h; exact h.elim
theorem cI_eq {M : M2} {s0 sp d0 dp n : Nat} : gI (cI M s0 sp d0 dp n) d0 = va_cpy (gI M s0) (gI M d0) sp dp n := by
  funext j
  simp [gI, cI, va_cpy]
theorem cI_ne {M : M2} {s0 sp d0 dp n r : Nat} (h : r ≠ d0) : gI (cI M s0 sp d0 dp n) r = gI M r := by
  funext j
  simp [gI, cI, h]
theorem cL_eq {M : M2} {s0 sp d0 dp n : Nat} : gL (cL M s0 sp d0 dp n) d0 = va_cpy (gL M s0) (gL M d0) sp dp n := by
  funext j
  simp [gL, cL, va_cpy]
theorem cL_ne {M : M2} {s0 sp d0 dp n r : Nat} (h : r ≠ d0) : gL (cL M s0 sp d0 dp n) r = gL M r := by
  funext j
  simp [gL, cL, h]
theorem ix_nn {i : Int32} {n : Nat} (h : ix i ≤ n) (hn : n ≤ 4000) : ¬ i < 0 ∧ i.toNatClampNeg = ix i := by
  obtain ⟨h1, h2⟩ := ix_in (i := i) (n := 4001) (by omega) (by decide)
  exact ⟨fun q => h1 (Or.inl q), h2⟩
theorem st_static {nE d n z x nx a b c0 : Nat} {v : Int32} {w : Int64} {cs : List (Int32 × Nat)} {K : KT} {C : CT} {Q : QT} {am st : List Value} {M : Mm} (h : stepW nE d n z (.invokestatic x, nx, a, b, c0, v, w, cs) K C Q am st M) (h7 : Nat.beq b 7 = false) (h8 : Nat.beq b 8 = false) (h6 : Nat.beq b 6 = false) : callK nE d n a (mN a) st K C nx am M := by
  cases d <;> (simp only [stepW, h7, h8, h6, cond_false] at h; exact h)
theorem st_special {nE d n z x nx a b c0 : Nat} {v : Int32} {w : Int64} {cs : List (Int32 × Nat)} {K : KT} {C : CT} {Q : QT} {am st : List Value} {M : Mm} (h : stepW nE d n z (.invokespecial x, nx, a, b, c0, v, w, cs) K C Q am st M) (h5 : Nat.beq b 5 = false) : rcK n (mc a) (st.drop (mN a)) (callK nE d n a (mN a + 1) st K C nx am M) := by
  cases d <;> (simp only [stepW, h5, cond_false] at h; exact h)
def callOp (i : Instr) : Bool := match i with
  | .invokevirtual _ | .invokestatic _ | .invokespecial _ => true
  | _ => false
set_option maxHeartbeats 4000000 in
set_option maxRecDepth 100000 in
theorem step_call {o : Op} {pc n : Nat} {am st : List Value} {M : Mm} {K : KT} {C : CT} (X : Cx p R s m args meth c D cy ad B d n0 nE mu) (hok : okOp mu pc o = true) (hpl : callOp o.1 = true)
    (hK : ∀ pc' am' st' n' M', K pc' am' st' n' M' → Go p l e R s m args below meth c D cy ad B n0 nE mu Q n' pc' am' st' M')
    (hC : ∀ (d' mu' : Nat) (vs : List Value) (n : Nat) (M : Mm) (Q' : QT), d' + 1 = d → mu' < 303 → mo mu' < 15 → (argL vs).length ≤ mL mu' → 4 ≤ n → n + mA mu' ≤ 107 → C d' (n + mA mu') mu' (lcl mu' vs) n M Q' → Ct l D cy ad B d' n mu' vs M Q')
    (h : stepW nE d n (rz mu) o K C Q am st M) : Go p l e R s m args below meth c D cy ad B n0 nE mu Q n pc am st M := by
  obtain ⟨hx, hb, hml, hown, hts, hret, hlocks, hname, hRf, hRl, hRc, hRs, hs0, hn4, hK0, hN, hA, hz, hNT⟩ := id X
  obtain ⟨i, nx, a, b, c0, v, w, cs⟩ := o
  intro H locs ls hP hD hS hB h0 h1 hlen hl T hT XT
  have hsz := size_of X hP hS h0 hT XT
  have hls : c.maxLocals = ls.size := by rw [hml, hl.1, hlen]
  have hSS1 := SS_le h0
  have hSS0 := SS_le h1
  cases i with
  | invokevirtual x =>
    obtain ⟨hk, hnx, hd⟩ := ok3 hok
    have hnx := Nat.eq_of_beq_eq_true hnx
    subst hnx
    have hd := of_decide_eq_true hd
    obtain ⟨hw, ha, hk3⟩ := ok3 hk
    have ha := Nat.le_of_ble_eq_true ha
    obtain ⟨hms, ho, q9⟩ := ok3 hk3
    have ho := Nat.le_of_ble_eq_true ho
    have hms : mS a = false := by cases q : mS a <;> simp_all
    replace h : rcK n (mc a) (st.drop (mN a)) (callK nE d n a (mN a + 1) st K C (pc + 3) am M) := h
    obtain ⟨r, rest, hst, hrn, hkd, h⟩ := rcK_e h
    obtain ⟨e1, e2, e3, e4⟩ := split_st hst
    obtain ⟨d', rfl, f1, f2, f3, f4, h⟩ := callK_e h
    rw [e3] at h f4
    rw [e2] at h f2
    have hct := hC d' a _ n M _ rfl ha (by omega) f4 (by omega) (by omega) h
    obtain ⟨q1, q2, q3, q4, q5, q6, q7, q8⟩ := okm ha (by omega : mo a < 15)
    rw [hms] at q2 q3 q8
    have hmc : mc a = mo a := Nat.eq_of_beq_eq_true q8
    have hSS2 := SS_le f3
    have hSS3 := SS_le (show n ≤ n + mA a by omega)
    have hcr : kd r < 13 := by omega
    have h4 : 4 ≤ r := kd_4 (by omega)
    have hg := wl_get (cy := cy) (ad := ad) (M := M) h4 hrn
    rw [en_obj rfl hcr] at hg
    have hrecv := va_recv hK0 hP (clC _ hcr) hg
    rw [cq_cnm _ hcr, hkd, hmc] at hrecv
    have hlink := hts _ (wIs_g hw (show (1 : Nat) ≠ 2 by decide) (show (1 : Nat) ≠ 13 by decide) (show (1 : Nat) ≠ 16 by decide))
    have h900 : Nat.beq a 900 = false := by
      cases q : Nat.beq a 900 with
      | false => rfl
      | true => have := Nat.eq_of_beq_eq_true q; omega
    have hlink : (Cond.methodLink (cnm (mo mu)) x (Yn a)).before args s = true := by
      have e9 : wX c0 (1, mo mu, x, a, 0) = Cond.methodLink (cnm (mo mu)) x (bif Nat.beq a 900 then arraycopyName else Yn a) := rfl
      rw [e9, h900] at hlink
      exact hlink
    have hinst := hts _ (wIs_g q2 (show (7 : Nat) ≠ 2 by decide) (show (7 : Nat) ≠ 13 by decide) (show (7 : Nat) ≠ 16 by decide))
    have hsel : (Cond.selects (cnm (mo a)) (Yn a) (Yn a)).before args s = true := hts _ (wIs_g q9 (show (9 : Nat) ≠ 2 by decide) (show (9 : Nat) ≠ 13 by decide) (show (9 : Nat) ≠ 16 by decide))
    refine call_go X (va_runV (As := (st.take (mN a)).reverse.map (cv ad)) (rest := rest.map (cv ad)) (b := ad r) (C := cnm (mo a)) ⟨hx, hb, hml, hown, hts⟩ hct ⟨callB_a hts ha (by omega) hlink hRf hRl, hinst, hsel⟩ ⟨rp_blind hA, hrecv, fun U hU hW => rp_in X hP hD hS hB h0 hsz _ U hU hW⟩ rfl ?_ ?_ ?_ ?_ hd ⟨by omega, by omega⟩) hS (fun r' M' H1 locs1 hq hP1 hD1 hS1 hB1 => call_end hK hq h0 f3 hlen hl hP1 hD1 hS1 hB1) T hT XT
    · simp [Nat.min_eq_left e1]
    · rw [← hml]; exact hls.symm
    · exact e4 ad
    · exact lv_room (pc := pc) (ls := ls) (m := m) (rest := st.map (cv ad)) (by rw [cats_map]; exact f2)
  | invokestatic x =>
    obtain ⟨hk, hnx, hd⟩ := ok3 hok
    have hnx := Nat.eq_of_beq_eq_true hnx
    subst hnx
    have hd := of_decide_eq_true hd
    by_cases h7 : b = 7
    · subst h7
      have hk : wIs c0 (1, mo mu, x, 98, 0) = true := hk
      cases d with
      | zero => exact h.elim
      | succ d =>
        replace h : pII st (fun x y r => bK (Nat.ble (cats r) 8) (K (pc + 3) am (.int (imx x y) :: r) n M)) := h
        obtain ⟨y, z, r, rfl, h⟩ := pII_e h
        obtain ⟨hc8, h⟩ := bK_e h
        have hc8 := Nat.le_of_ble_eq_true hc8
        exact va_mmax hx hb hls hown (hts _ (wIs_g hk (show (1 : Nat) ≠ 2 by decide) (show (1 : Nat) ≠ 13 by decide) (show (1 : Nat) ≠ 16 by decide))) (hwd hts 662 (by decide) (by decide +kernel) (by decide +kernel) (by decide +kernel)) (hwd hts 136 (by decide) (by decide +kernel) (by decide +kernel) (by decide +kernel)) (hwd hts 663 (by decide) (by decide +kernel) (by decide +kernel) (by decide +kernel)) (by omega) (by rw [cats_map]; omega) (by omega) (by omega) hd (hK _ _ _ _ _ h H locs ls hP hD hS hB h0 h1 hlen hl) T hT XT
    by_cases h8 : b = 8
    · subst h8
      have hk : wIs c0 (1, mo mu, x, 74, 0) = true := hk
      cases d with
      | zero => exact h.elim
      | succ d =>
        replace h : pII st (fun x y r => bK (Nat.ble (cats r) 8) (K (pc + 3) am (.int (imn x y) :: r) n M)) := h
        obtain ⟨y, z, r, rfl, h⟩ := pII_e h
        obtain ⟨hc8, h⟩ := bK_e h
        have hc8 := Nat.le_of_ble_eq_true hc8
        exact va_mmin hx hb hls hown (hts _ (wIs_g hk (show (1 : Nat) ≠ 2 by decide) (show (1 : Nat) ≠ 13 by decide) (show (1 : Nat) ≠ 16 by decide))) (hwd hts 578 (by decide) (by decide +kernel) (by decide +kernel) (by decide +kernel)) (hwd hts 136 (by decide) (by decide +kernel) (by decide +kernel) (by decide +kernel)) (hwd hts 579 (by decide) (by decide +kernel) (by decide +kernel) (by decide +kernel)) (by omega) (by rw [cats_map]; omega) (by omega) (by omega) hd (hK _ _ _ _ _ h H locs ls hP hD hS hB h0 h1 hlen hl) T hT XT
    by_cases h6 : b = 6
    · subst h6
      have hk : wIs c0 (1, mo mu, x, 900, 0) = true := hk
      cases d with
      | zero => exact h.elim
      | succ d =>
        replace h : pCpy st (fun cn dp q1 sp q0 r => bK (Nat.ble (cats r) 8) (cpK n q0 q1 M (fun M' => K (pc + 3) am r n M') sp dp cn)) := h
        obtain ⟨cn, dp, q1, sp, q0, r, rfl, h⟩ := pCpy_e h
        obtain ⟨hc8, h⟩ := bK_e h
        have hc8 := Nat.le_of_ble_eq_true hc8
        obtain ⟨hq0, hq1, hl0, hl1, h⟩ := cpK_e h
        have z0 := ln_lt q0
        have z1 := ln_lt q1
        obtain ⟨s1, s2⟩ := ix_nn (i := sp) (n := 4000) (by omega) (by omega)
        obtain ⟨t1, t2⟩ := ix_nn (i := dp) (n := 4000) (by omega) (by omega)
        obtain ⟨u1, u2⟩ := ix_nn (i := cn) (n := 4000) (by omega) (by omega)
        have hnat := hwd hts 772 (by decide) (by decide +kernel) (by decide +kernel) (by decide +kernel)
        have hstat := hwd hts 771 (by decide) (by decide +kernel) (by decide +kernel) (by decide +kernel)
        have hini := hwd hts 138 (by decide) (by decide +kernel) (by decide +kernel) (by decide +kernel)
        have hnw : nativeFrameWords "java/lang/System" "arraycopy" 5 ≤ 40 := by decide +kernel
        rcases h with ⟨k0, k1, h⟩ | ⟨k0, k1, h⟩
        · have h40 : 4 ≤ q0 := kd_4 (by omega)
          have h41 : 4 ≤ q1 := kd_4 (by omega)
          have hg0 := wl_get (cy := cy) (ad := ad) (M := M) h40 hq0
          have hg1 := wl_get (cy := cy) (ad := ad) (M := M) h41 hq1
          rw [en_i k0 (by omega)] at hg0
          rw [en_i k1 (by omega)] at hg1
          refine va_copyi hx hb hls hown (hts _ (wIs_g hk (show (1 : Nat) ≠ 2 by decide) (show (1 : Nat) ≠ 13 by decide) (show (1 : Nat) ≠ 16 by decide))) hnat hstat hini hK0 hP hD hS (q0 - 4) (q1 - 4) 0 0 hg0 hg1 rfl rfl rfl s1 t1 u1 (by rw [s2, u2]; exact hl0) (by rw [t2, u2]; exact hl1) (fun i _ => rfl) (by omega) (by rw [cats_map]; omega) hd (fun H1 locs1 hP1 hD1 hS1 => ?_) T hT XT
          have e : (wl cy ad n M).set (q1 - 4) (ad q1, .inl (cy 20, ln q1, .inl (va_cpy (gI M.2 q0) (gI M.2 q1) (ix sp) (ix dp) (ix cn)))) = wl cy ad n (M.1, cI M.2 q0 (ix sp) q1 (ix dp) (ix cn)) :=
            wl_set h41 (by rw [en_i k1 (by omega), cI_eq]) (fun r' hr' => en_of rfl (cI_ne hr') rfl)
          rw [s2, t2, u2, e] at hP1 hD1
          exact hK _ _ _ _ _ h H1 locs1 ls hP1 hD1 hS1 (hB.of (fun _ _ => cI_ne (by omega))) h0 h1 hlen hl
        · have h40 : 4 ≤ q0 := kd_4 (by omega)
          have h41 : 4 ≤ q1 := kd_4 (by omega)
          have hg0 := wl_get (cy := cy) (ad := ad) (M := M) h40 hq0
          have hg1 := wl_get (cy := cy) (ad := ad) (M := M) h41 hq1
          rw [en_l k0] at hg0
          rw [en_l k1] at hg1
          refine va_copyl hx hb hls hown (hts _ (wIs_g hk (show (1 : Nat) ≠ 2 by decide) (show (1 : Nat) ≠ 13 by decide) (show (1 : Nat) ≠ 16 by decide))) hnat hstat hini hK0 hP hD hS (q0 - 4) (q1 - 4) 3 3 hg0 hg1 rfl rfl rfl s1 t1 u1 (by rw [s2, u2]; exact hl0) (by rw [t2, u2]; exact hl1) (fun i _ => rfl) (by omega) (by rw [cats_map]; omega) hd (fun H1 locs1 hP1 hD1 hS1 => ?_) T hT XT
          have e : (wl cy ad n M).set (q1 - 4) (ad q1, .inl (cy 23, ln q1, .inr (.inl (va_cpy (gL M.2 q0) (gL M.2 q1) (ix sp) (ix dp) (ix cn))))) = wl cy ad n (M.1, cL M.2 q0 (ix sp) q1 (ix dp) (ix cn)) :=
            wl_set h41 (by rw [en_l k1, cL_eq]) (fun r' hr' => en_of rfl rfl (cL_ne hr'))
          rw [s2, t2, u2, e] at hP1 hD1
          exact hK _ _ _ _ _ h H1 locs1 ls hP1 hD1 hS1 (hB.of (fun _ _ => rfl)) h0 h1 hlen hl
    have nb : ∀ k, b ≠ k → Nat.beq b k = false := fun k q => by
      cases z : Nat.beq b k with
      | false => rfl
      | true => exact absurd (Nat.eq_of_beq_eq_true z) q
    replace h : callK nE d n a (mN a) st K C (pc + 3) am M := st_static h (nb 7 h7) (nb 8 h8) (nb 6 h6)
    replace hk : (bif Nat.beq b 6 then wIs c0 (1, mo mu, x, 900, 0) else bif Nat.beq b 7 then wIs c0 (1, mo mu, x, 98, 0) else bif Nat.beq b 8 then wIs c0 (1, mo mu, x, 74, 0) else bif Nat.beq b 1 then wIs c0 (1, mo mu, x, a, 0) && (Nat.blt a 303 && (mS a && Nat.blt (mo a) 15)) else wIs c0 (2, mo mu, x, a, 0) && (Nat.blt a 303 && (mS a && Nat.blt (mo a) 15))) = true := hk
    rw [nb 7 h7, nb 8 h8, nb 6 h6] at hk
    replace hk : (bif Nat.beq b 1 then wIs c0 (1, mo mu, x, a, 0) && (Nat.blt a 303 && (mS a && Nat.blt (mo a) 15)) else wIs c0 (2, mo mu, x, a, 0) && (Nat.blt a 303 && (mS a && Nat.blt (mo a) 15))) = true := hk
    obtain ⟨d', rfl, f1, f2, f3, f4, h⟩ := callK_e h
    have hSS2 := SS_le f3
    have hSS3 := SS_le (show n ≤ n + mA a by omega)
    have tk : ((st.take (mN a)).reverse.map (cv ad)).length = mN a := by simp [Nat.min_eq_left f1]
    cases hb1 : Nat.beq b 1 with
    | true =>
      rw [hb1] at hk
      obtain ⟨hw, ha, hk3⟩ := ok3 hk
      have ha := Nat.le_of_ble_eq_true ha
      obtain ⟨hms, ho⟩ := ok2 hk3
      have ho := Nat.le_of_ble_eq_true ho
      have hct := hC d' a _ n M _ rfl ha ho f4 (by omega) (by omega) h
      obtain ⟨q1, q2, q3, q4, q5, q6, q7, q8⟩ := okm ha ho
      rw [hms] at q2
      have hlink := hts _ (wIs_g hw (show (1 : Nat) ≠ 2 by decide) (show (1 : Nat) ≠ 13 by decide) (show (1 : Nat) ≠ 16 by decide))
      have h900 : Nat.beq a 900 = false := by
        cases q : Nat.beq a 900 with
        | false => rfl
        | true => have := Nat.eq_of_beq_eq_true q; omega
      have hlink : (Cond.methodLink (cnm (mo mu)) x (Yn a)).before args s = true := by
        have e9 : wX c0 (1, mo mu, x, a, 0) = Cond.methodLink (cnm (mo mu)) x (bif Nat.beq a 900 then arraycopyName else Yn a) := rfl
        rw [e9, h900] at hlink
        exact hlink
      have hstat := hts _ (wIs_g q2 (show (8 : Nat) ≠ 2 by decide) (show (8 : Nat) ≠ 13 by decide) (show (8 : Nat) ≠ 16 by decide))
      exact call_go X (va_runS (As := (st.take (mN a)).reverse.map (cv ad)) (rest := (st.drop (mN a)).map (cv ad)) ⟨hx, hb, hml, hown, hts⟩ hct ⟨callB_a hts ha ho hlink hRf hRl, hstat⟩ ⟨rp_blind hA, fun U hU hW => rp_in X hP hD hS hB h0 hsz _ U hU hW⟩ rfl tk (by rw [← hml]; exact hls.symm) (split_s ad) (lv_room (pc := pc) (ls := ls) (m := m) (rest := st.map (cv ad)) (by rw [cats_map]; exact f2)) hd ⟨by omega, by omega⟩) hS (fun r' M' H1 locs1 hq hP1 hD1 hS1 hB1 => call_end hK hq h0 f3 hlen hl hP1 hD1 hS1 hB1) T hT XT
    | false =>
      rw [hb1] at hk
      obtain ⟨hw, ha, hk3⟩ := ok3 hk
      have ha := Nat.le_of_ble_eq_true ha
      obtain ⟨hms, ho⟩ := ok2 hk3
      have ho := Nat.le_of_ble_eq_true ho
      have hct := hC d' a _ n M _ rfl ha ho f4 (by omega) (by omega) h
      obtain ⟨q1, q2, q3, q4, q5, q6, q7, q8⟩ := okm ha ho
      rw [hms] at q2
      have hstat := hts _ (wIs_g q2 (show (8 : Nat) ≠ 2 by decide) (show (8 : Nat) ≠ 13 by decide) (show (8 : Nat) ≠ 16 by decide))
      exact call_go X (va_runSN (As := (st.take (mN a)).reverse.map (cv ad)) (rest := (st.drop (mN a)).map (cv ad)) ⟨hx, hb, hml, hown, hts⟩ hct ⟨callN_a hts ha ho (nest_w hN hw) hRf hRl, hstat, trivial⟩ ⟨rp_blind hA, fun U hU hW => rp_in X hP hD hS hB h0 hsz _ U hU hW⟩ rfl tk (by rw [← hml]; exact hls.symm) (split_s ad) (lv_room (pc := pc) (ls := ls) (m := m) (rest := st.map (cv ad)) (by rw [cats_map]; exact f2)) hd ⟨by omega, by omega⟩) hS (fun r' M' H1 locs1 hq hP1 hD1 hS1 hB1 => call_end hK hq h0 f3 hlen hl hP1 hD1 hS1 hB1) T hT XT
  | invokespecial x =>
    obtain ⟨hk, hnx, hd⟩ := ok3 hok
    have hnx := Nat.eq_of_beq_eq_true hnx
    subst hnx
    have hd := of_decide_eq_true hd
    by_cases h5 : b = 5
    · subst h5
      have hk : wIs c0 (1, mo mu, x, 1, 0) = true := hk
      cases d with
      | zero => exact h.elim
      | succ d =>
        replace h : pR st (fun _ r => bK (Nat.ble (cats r) 8) (K (pc + 3) am r n M)) := h
        obtain ⟨y, r, rfl, h⟩ := pR_e h
        obtain ⟨hc8, h⟩ := bK_e h
        have hc8 := Nat.le_of_ble_eq_true hc8
        have hroom := lv_room (pc := pc) (ls := ls) (m := m) (rest := r.map (cv ad)) (st := r.map (cv ad)) (by rw [cats_map]; exact hc8)
        exact W.objInit (a := ad y) (rest := r.map (cv ad)) (g := F0 m pc ls (.ref (ad y) :: r.map (cv ad))) hx hb hown (hts _ (wIs_g hk (show (1 : Nat) ≠ 2 by decide) (show (1 : Nat) ≠ 13 by decide) (show (1 : Nat) ≠ 16 by decide))) (hwd hts 145 (by decide) (by decide +kernel) (by decide +kernel) (by decide +kernel)) (hwd hts 146 (by decide) (by decide +kernel) (by decide +kernel) (by decide +kernel)) rfl hls.symm rfl hd (by omega) (Nat.le_trans (Nat.add_le_add_right hroom 12) (by omega)) (hK _ _ _ _ _ h H locs ls hP hD hS hB h0 h1 hlen hl) T hT XT
    have nb5 : Nat.beq b 5 = false := by
      cases z : Nat.beq b 5 with
      | false => rfl
      | true => exact absurd (Nat.eq_of_beq_eq_true z) h5
    replace h : rcK n (mc a) (st.drop (mN a)) (callK nE d n a (mN a + 1) st K C (pc + 3) am M) := st_special h nb5
    obtain ⟨r, rest, hst, hrn, hkd, h⟩ := rcK_e h
    obtain ⟨e1, e2, e3, e4⟩ := split_st hst
    obtain ⟨d', rfl, f1, f2, f3, f4, h⟩ := callK_e h
    rw [e3] at h f4
    rw [e2] at h f2
    have hSS2 := SS_le f3
    have hSS3 := SS_le (show n ≤ n + mA a by omega)
    replace hk : (bif Nat.beq b 5 then wIs c0 (1, mo mu, x, 1, 0) else bif Nat.beq b 3 then wIs c0 (1, mo mu, x, a, 0) && (Nat.blt a 303 && (decide (mnm a = "<init>") && (Nat.blt (mo a) 13 && (Nat.beq (rz a) 0 && !(mS a))))) else wIs c0 (2, mo mu, x, a, 0) && (Nat.blt a 303 && (decide (mnm a = "<init>") && (Nat.blt (mo a) 13 && (Nat.beq (rz a) 0 && !(mS a)))))) = true := hk
    rw [nb5] at hk
    replace hk : (bif Nat.beq b 3 then wIs c0 (1, mo mu, x, a, 0) && (Nat.blt a 303 && (decide (mnm a = "<init>") && (Nat.blt (mo a) 13 && (Nat.beq (rz a) 0 && !(mS a))))) else wIs c0 (2, mo mu, x, a, 0) && (Nat.blt a 303 && (decide (mnm a = "<init>") && (Nat.blt (mo a) 13 && (Nat.beq (rz a) 0 && !(mS a)))))) = true := hk
    have hh : ((Nat.beq b 3 = true ∧ wIs c0 (1, mo mu, x, a, 0) = true) ∨ (Nat.beq b 3 = false ∧ wIs c0 (2, mo mu, x, a, 0) = true)) ∧ (Nat.blt a 303 && (decide (mnm a = "<init>") && (Nat.blt (mo a) 13 && (Nat.beq (rz a) 0 && !(mS a))))) = true := by
      cases hb3 : Nat.beq b 3 with
      | true => rw [hb3] at hk; exact ⟨Or.inl ⟨rfl, (ok2 hk).1⟩, (ok2 hk).2⟩
      | false => rw [hb3] at hk; exact ⟨Or.inr ⟨rfl, (ok2 hk).1⟩, (ok2 hk).2⟩
    obtain ⟨hw, hk3⟩ := hh
    obtain ⟨ha, hin, hk4⟩ := ok3 hk3
    have ha := Nat.le_of_ble_eq_true ha
    have hin := of_decide_eq_true hin
    obtain ⟨ho, hrz, hms⟩ := ok3 hk4
    have ho := Nat.le_of_ble_eq_true ho
    have hrz := Nat.eq_of_beq_eq_true hrz
    have hms : mS a = false := by cases q : mS a <;> simp_all
    have hct := hC d' a _ n M _ rfl ha (by omega) f4 (by omega) (by omega) h
    obtain ⟨q1, q2, q3, q4, q5, q6, q7, q8⟩ := okm ha (by omega : mo a < 15)
    rw [hms] at q2
    have hinst := hts _ (wIs_g q2 (show (7 : Nat) ≠ 2 by decide) (show (7 : Nat) ≠ 13 by decide) (show (7 : Nat) ≠ 16 by decide))
    have hrt : Rt a = none := by
      rw [hrz] at q7
      cases z : Rt a with
      | none => rfl
      | some ty =>
        rw [z] at q7
        cases ty <;> cases q7
    have tk : ((st.take (mN a)).reverse.map (cv ad)).length = mN a := by simp [Nat.min_eq_left e1]
    have hroom := lv_room (pc := pc) (ls := ls) (m := m) (rest := st.map (cv ad)) (st := rest.map (cv ad)) (by rw [cats_map]; exact f2)
    have fin : ∀ (r' : Option Value) (M' : Mm) (H1 : Heap) (locs1 : List Loc), rKd (rz a) (rF (fx a) M.1 (fun v M' => K (pc + 3) am (v ++ rest) (n + mA a) M')) r' M' → va_P D vwCl (wl cy ad (n + mA a) M') H1 → va_D (fun q => B ≤ q) (wl cy ad (n + mA a) M') → va_S (fun q => B ≤ q) s.heap H1 locs1 → Bs ad B M' s s.heap → W p l e R s m args below meth c H1 locs1 (n - n0 + mA a) (SS n - SS n0 + (SS (n + mA a) - SS n)) (MQ below (Qp D cy ad B nE Q) args s (nE - n0) (SS nE - SS n0) (fun q => B ≤ q)) (F0 m (pc + 3) ls ((r'.map (cv ad)).toList ++ rest.map (cv ad))) := fun r' M' H1 locs1 hq hP1 hD1 hS1 hB1 => call_end hK hq h0 f3 hlen hl hP1 hD1 hS1 hB1
    have hpre : ∀ U : State, U.heap = H → s.WarmedH U.vm → va_Pc ((.ref r :: (st.take (mN a)).reverse).map (cv ad)) (Rp D cy ad B n M) (Value.ref (ad r) :: (st.take (mN a)).reverse.map (cv ad)).toArray U := fun U hU hW => rp_in X hP hD hS hB h0 hsz _ U hU hW
    rcases hw with ⟨hb3, hw⟩ | ⟨hb3, hw⟩
    · have hlink := hts _ (wIs_g hw (show (1 : Nat) ≠ 2 by decide) (show (1 : Nat) ≠ 13 by decide) (show (1 : Nat) ≠ 16 by decide))
      have h900 : Nat.beq a 900 = false := by
        cases q : Nat.beq a 900 with
        | false => rfl
        | true => have := Nat.eq_of_beq_eq_true q; omega
      have hlink : (Cond.methodLink (cnm (mo mu)) x (Yn a)).before args s = true := by
        have e9 : wX c0 (1, mo mu, x, a, 0) = Cond.methodLink (cnm (mo mu)) x (bif Nat.beq a 900 then arraycopyName else Yn a) := rfl
        rw [e9, h900] at hlink
        exact hlink
      have cb := callB_a (n := n) (d' := d') hts ha (by omega : mo a < 15) hlink hRf hRl
      rw [hrt] at cb
      unfold Ct at hct
      rw [hrt] at hct
      exact call_go X (va_runI (As := (st.take (mN a)).reverse.map (cv ad)) (rest := rest.map (cv ad)) (b := ad r) ⟨hx, hb, hml, hown, hts⟩ hct ⟨cb, hin, hinst⟩ ⟨rp_blind hA, hpre⟩ rfl tk (by rw [← hml]; exact hls.symm) (e4 ad) hroom hd ⟨by omega, by omega⟩) hS fin T hT XT
    · have cb := callN_a (n := n) (d' := d') hts ha (by omega : mo a < 15) (nest_w hN hw) hRf hRl
      rw [hrt] at cb
      unfold Ct at hct
      rw [hrt] at hct
      exact call_go X (va_runIN (As := (st.take (mN a)).reverse.map (cv ad)) (rest := rest.map (cv ad)) (b := ad r) ⟨hx, hb, hml, hown, hts⟩ hct ⟨cb, hin, hinst⟩ ⟨rp_blind hA, hpre⟩ rfl tk (by rw [← hml]; exact hls.symm) (e4 ad) hroom hd ⟨by omega, by omega⟩) hS fin T hT XT
  | _ => exact (Bool.false_ne_true hpl).elim
end CALL2
