/-! THE ABSTRACT MACHINE IS SOUND -/
theorem op_kinds (i : Instr) (h1 : plainOp i = false) (h2 : memOp i = false) (h3 : newOp i = false) (h4 : retOp i = false) : callOp i = true := by
  cases i <;> first | rfl | (cases h1; done) | (cases h2; done) | (cases h3; done) | (cases h4; done)
section SOUND
variable {p : Program} {l : Launch} {e : Env} {R : Room} {s : State} {m : MethodId} {args : Array Value} {below : List Frame} {meth : Method} {c : Code} {D : va_G} {cy : Nat → ClassId} {ad : Nat → Nat} {B d n0 nE mu : Nat} {Q : QT}
theorem step_all {o : Op} {pc n : Nat} {am st : List Value} {M : Mm} {K : KT} {C : CT} (X : Cx p R s m args meth c D cy ad B d n0 nE mu) (hok : okOp mu pc o = true)
    (hK : ∀ pc' am' st' n' M', K pc' am' st' n' M' → Go p l e R s m args below meth c D cy ad B n0 nE mu Q n' pc' am' st' M')
    (hC : ∀ (d' mu' : Nat) (vs : List Value) (n : Nat) (M : Mm) (Q' : QT), d' + 1 = d → mu' < 303 → mo mu' < 15 → (argL vs).length ≤ mL mu' → 4 ≤ n → n + mA mu' ≤ 107 → C d' (n + mA mu') mu' (lcl mu' vs) n M Q' → Ct l D cy ad B d' n mu' vs M Q')
    (h : stepW nE d n (rz mu) o K C Q am st M) : Go p l e R s m args below meth c D cy ad B n0 nE mu Q n pc am st M := by
  cases h1 : plainOp o.1 with
  | true => exact step_plain X hok h1 hK h
  | false =>
    cases h2 : memOp o.1 with
    | true => exact step_mem X hok h2 hK h
    | false =>
      cases h3 : newOp o.1 with
      | true => exact step_new X hok h3 hK h
      | false =>
        cases h4 : retOp o.1 with
        | true => exact step_ret X hok h4 h
        | false => exact step_call X hok (op_kinds _ h1 h2 h3 h4) hK hC h
end SOUND
set_option maxHeartbeats 4000000 in
theorem ct_of {l : Launch} {D : va_G} {cy : Nat → ClassId} {ad : Nat → Nat} {B d n mu : Nat} {vs : List Value} {M : Mm} {Q : QT} (hA : Ag ad B) (hmu : mu < 303) (ho : mo mu < 15) (hlen : (argL vs).length ≤ mL mu) (hn : n + mA mu ≤ 107)
    (hgo : ∀ (p : Program) (e : Env) (R : Room) (s : State) (m : MethodId) (args : Array Value) (below : List Frame) (meth : Method) (c : Code), Cx p R s m args meth c D cy ad B d n (n + mA mu) mu → Go p l e R s m args below meth c D cy ad B n (n + mA mu) mu Q n 0 (lcl mu vs) [] M) : Ct l D cy ad B d n mu vs M Q := by
  unfold Ct
  refine Met.ofW (cc := Bc mu) (maxL := mL mu) (ret := Rt mu) (cnm_ok _ ho).1 rfl ?_
  intro p e s m args below meth c s₁ B' hml hv
  obtain ⟨rfl, hsz, hK, hP, hD, hB, hN, h4⟩ := hv
  obtain ⟨-, -, -, -, -, -, q7, -⟩ := okm hmu ho
  have hts : ∀ w ∈ lw_g, w.before (vs.map (cv ad)).toArray s = true := fun w hw => atoms_spec (ws := .code (Yn mu) (Bc mu) (mL mu) (Rt mu) :: lw_g) B'.pre w (List.mem_cons_of_mem _ hw)
  have X : Cx p ({ frames := d, cells := mA mu, slots := SS (n + mA mu) - SS n, locals := 64 * d } : Room) s m (vs.map (cv ad)).toArray meth c D cy ad B d n (n + mA mu) mu :=
    ⟨B'.exec, B'.bytes, hml, findClass_of_methodNamed B'.named, hts, B'.returns, B'.notSynchronized, (name_of_methodNamed B'.named B'.method).1, Nat.le_refl _, Nat.le_refl _, by show n + mA mu - n ≤ mA mu; omega, Nat.le_refl _, hsz, h4, hK, hN, hA, q7, hn⟩
  have hl := lv_entry (vs.map (cv ad)) (n := mL mu) (by rw [argL_len]; exact hlen)
  have h := hgo p e _ s m _ below meth c X s.heap [] _ hP hD va_S.rf hB (Nat.le_refl _) (Nat.le_add_right _ _) (pad_len _ _ hlen) (LR.entry hlen hl)
  rw [Nat.sub_self, Nat.sub_self, Nat.add_sub_cancel_left] at h
  rw [lg_entry_eq]
  exact h
theorem sound {l : Launch} {p : Program} {e : Env} {R : Room} {s : State} {m : MethodId} {args : Array Value} {below : List Frame} {meth : Method} {c : Code} {D : va_G} {cy : Nat → ClassId} {ad : Nat → Nat} {B d n0 nE mu : Nat} {Q : QT} {n pc : Nat} {am st : List Value} {M : Mm} (X : Cx p R s m args meth c D cy ad B d n0 nE mu) (hmu : mu < 304) (h : WP d nE mu pc am st n M Q) : Go p l e R s m args below meth c D cy ad B n0 nE mu Q n pc am st M := by
  refine h (fun d nE mu pc am st n M Q => mu < 304 → ∀ (p : Program) (e : Env) (R : Room) (s : State) (m : MethodId) (args : Array Value) (below : List Frame) (meth : Method) (c : Code) (n0 : Nat), Cx p R s m args meth c D cy ad B d n0 nE mu → Go p l e R s m args below meth c D cy ad B n0 nE mu Q n pc am st M) ?_ hmu p e R s m args below meth c n0 X
  intro d nE mu pc ls st n M Q h hmu p e R s m args below meth c n0 X
  have hA : Ag ad B := by
    obtain ⟨-, -, -, -, -, -, -, -, -, -, -, -, -, -, -, -, hA, -, -⟩ := X
    exact hA
  exact step_all X (ok_to304 mu hmu pc) (fun pc' am' st' n' M' hk => hk hmu p e R s m args below meth c n0 X) (fun d' mu' vs n M Q' hd ha ho hlen h4 hn hw => ct_of hA ha ho hlen hn (fun p e R s m args below meth c X' => hw (by omega) p e R s m args below meth c n X')) h
