/-! ONE OPERATION OF THE ABSTRACT MACHINE IS ONE OF THE MACHINE -/
def Cx (p : Program) (R : Room) (s : State) (m : MethodId) (args : Array Value) (meth : Method) (c : Code) (D : va_G) (cy : Nat → ClassId) (ad : Nat → Nat) (B d n0 nE mu : Nat) : Prop :=
  p.tables.exec = Jvm.exec ∧ c.code = Bc mu ∧ c.maxLocals = mL mu ∧ s.vm.findClass (cnm (mo mu)) = some m.cls ∧ (∀ w ∈ lw_g, w.before args s = true) ∧ meth.sig.returnType = Rt mu ∧ meth.locks = false ∧ meth.name = mnm mu ∧
  d ≤ R.frames ∧ 64 * d ≤ R.locals ∧ nE - n0 ≤ R.cells ∧ SS nE - SS n0 ≤ R.slots ∧ s.heap.size = ad n0 ∧ 4 ≤ n0 ∧ va_K D vwCl (tys cy) s ∧ Nx s ∧ Ag ad B ∧ okR (rz mu) (Rt mu) = true ∧ nE ≤ 107
def Go (p : Program) (l : Launch) (e : Env) (R : Room) (s : State) (m : MethodId) (args : Array Value) (below : List Frame) (meth : Method) (c : Code) (D : va_G) (cy : Nat → ClassId) (ad : Nat → Nat) (B n0 nE mu : Nat) (Q : QT) (n pc : Nat) (am st : List Value) (M : Mm) : Prop :=
  ∀ (H : Heap) (locs : List Loc) (ls : Array Slot), va_P D vwCl (wl cy ad n M) H → va_D (fun q => B ≤ q) (wl cy ad n M) → va_S (fun q => B ≤ q) s.heap H locs → Bs ad B M s s.heap → n0 ≤ n → n ≤ nE → am.length = mL mu → LR ad am ls →
    W p l e R s m args below meth c H locs (n - n0) (SS n - SS n0) (MQ below (Qp D cy ad B nE Q) args s (nE - n0) (SS nE - SS n0) (fun q => B ≤ q)) (F0 m pc ls (st.map (cv ad)))
/-- what a call is owed -/
def Ct (l : Launch) (D : va_G) (cy : Nat → ClassId) (ad : Nat → Nat) (B d n mu : Nat) (vs : List Value) (M : Mm) (Q : QT) : Prop :=
  Met l (Yn mu) (.code (Yn mu) (Bc mu) (mL mu) (Rt mu) :: lw_g) ({ frames := d, cells := mA mu, slots := SS (n + mA mu) - SS n, locals := 64 * d } : Room) (va_Pc (vs.map (cv ad)) (Rp D cy ad B n M)) (Qp D cy ad B (n + mA mu) Q) (mA mu) (SS (n + mA mu) - SS n) (fun q => B ≤ q)
theorem Nx.warm {s : State} {U : State} (h : Nx s) (hW : s.WarmedH U.vm) : Nx U := by
  refine ⟨fun i hi h2 => ?_, h.2.moved hW.alike⟩
  have h3 := h.1 i hi h2
  cases hq : wQ i with
  | mk a t =>
    obtain ⟨p', q, r, z⟩ := t
    rw [hq] at h2
    have h2 : a = 2 := h2
    subst h2
    unfold wT at h3 ⊢
    rw [hq] at h3 ⊢
    exact va_Nw.warmM hW h3
theorem Bs.moved {ad : Nat → Nat} {B : Nat} {M : Mm} {s U : State} {H0 H : Heap} (h : Bs ad B M s H0) (hvm : s.vm.Alike U.vm) (hg : Ag ad B) (hsz : B ≤ H0.size) (hq : ∀ q, q < H0.size → ¬ B ≤ q → H[q]? = H0[q]?) : Bs ad B M U H := by
  obtain ⟨h1, h2, h3, h6⟩ := h
  have lo : ∀ r, r < 4 → H[ad r]? = H0[ad r]? := fun r hr => hq _ (Nat.lt_of_lt_of_le (hg.2 r hr) hsz) (Nat.not_le.mpr (hg.2 r hr))
  exact ⟨fun r hr => ((h1 r hr).moved hvm).kept (fun a h4 h5 => hq a h4 h5), (h2.moved hvm).kept (lo 3 (by omega)), fun r hr => ((h3 r hr).moved hvm).kept (fun a h4 h5 => hq a h4 h5), h6⟩
theorem ad_ge {ad : Nat → Nat} {B n : Nat} (h : Ag ad B) (hn : 4 ≤ n) : B ≤ ad n := by rw [h.1 n hn]; omega
def plainOp (i : Instr) : Bool := match i with
  | .getfield _ | .putfield _ | .getstatic _ | .arraylength | .iaload | .baload | .saload | .laload | .aaload | .iastore | .bastore | .sastore | .lastore | .aastore | .new _ | .newarray _ | .anewarray _ | .invokevirtual _ | .invokestatic _ | .invokespecial _ | .ireturn | .lreturn | .areturn | .return_ => false
  | _ => true
section STEP
variable {p : Program} {l : Launch} {e : Env} {R : Room} {s : State} {m : MethodId} {args : Array Value} {below : List Frame} {meth : Method} {c : Code} {D : va_G} {cy : Nat → ClassId} {ad : Nat → Nat} {B d n0 nE mu : Nat} {Q : QT}
/-- the facts at a place, handed on as a state's -/
theorem rp_of {n : Nat} {M : Mm} {H : Heap} {locs : List Loc} {t : State} (X : Cx p R s m args meth c D cy ad B d n0 nE mu) (hP : va_P D vwCl (wl cy ad n M) H) (hD : va_D (fun q => B ≤ q) (wl cy ad n M)) (hS : va_S (fun q => B ≤ q) s.heap H locs) (hB : Bs ad B M s s.heap) (h0 : n0 ≤ n) (ht : t.heap = H) (hW : s.WarmedH t.vm) (hsz : H.size = ad n) : Rp D cy ad B n M t := by
  obtain ⟨-, -, -, -, -, -, -, -, -, -, -, -, hs0, hn4, hK, hN, hA, -, -⟩ := X
  refine ⟨by rw [ht]; exact hsz, va_K.moved hW.alike hK, by rw [ht]; exact hP, hD, ?_, hN.warm hW, by omega⟩
  rw [ht]
  exact hB.moved hW.alike hA (by rw [hs0]; exact ad_ge hA hn4) hS.2.1
/-- how large the heap is -/
theorem size_of {n : Nat} {M : Mm} {H : Heap} {locs : List Loc} {T : State} {k : Nat} (X : Cx p R s m args meth c D cy ad B d n0 nE mu) (hP : va_P D vwCl (wl cy ad n M) H) (hS : va_S (fun q => B ≤ q) s.heap H locs) (h0 : n0 ≤ n) (hT : T.heap = H) (XT : Stand p l e R s m args below meth c T locs (n - n0) k) : H.size = ad n := by
  obtain ⟨-, -, -, -, -, -, -, -, -, -, -, -, hs0, hn4, hK, hN, hA, -, -⟩ := X
  have h1 := XT.heapSize
  rw [hT, hs0] at h1
  have e0 := hA.1 n0 hn4
  have e1 := hA.1 n (by omega)
  have h2 := hS.1
  rw [hs0] at h2
  rcases Nat.eq_or_lt_of_le h0 with q | q
  · subst q; omega
  · have h3 := (hP (n - 1 - 4) _ (wl_get (by omega) (by omega))).lt
    have e2 := hA.1 (n - 1) (by omega)
    show H.size = ad n
    have h4 : ad (n - 1) < H.size := h3
    omega
/-- where a new cell lies -/
theorem new_at {n q : Nat} {M : Mm} {H1 : Heap} {locs : List Loc} {T : State} {k : Nat} {x : va_E} (X : Cx p R s m args meth c D cy ad B d n0 nE mu) (h0 : n0 ≤ n) (hP1 : va_P D vwCl (wl cy ad n M ++ [(q, x)]) H1) (hD1 : va_D (fun q => B ≤ q) (wl cy ad n M ++ [(q, x)])) (hT : T.heap = H1) (XT : Stand p l e R s m args below meth c T locs (n - n0 + 1) k) : q = ad n := by
  obtain ⟨-, -, -, -, -, -, -, -, -, -, -, -, hs0, hn4, hK, hN, hA, -, -⟩ := X
  have h1 := XT.heapSize
  rw [hT, hs0] at h1
  have e0 := hA.1 n0 hn4
  have e1 := hA.1 n (by omega)
  have hl : (wl cy ad n M ++ [(q, x)])[n - 4]? = some (q, x) := by
    rw [List.getElem?_append_right (by rw [wl_len]; exact Nat.le_refl _), wl_len, Nat.sub_self]
    rfl
  have h2 : q < H1.size := (hP1 (n - 4) _ hl).lt
  have h3 : B ≤ q := hD1.2 (n - 4) _ hl
  rcases Nat.lt_or_ge q (ad n) with h4 | h4
  · have hr : (wl cy ad n M ++ [(q, x)])[q - B]? = some (ad (q - B + 4), en cy ad M (q - B + 4)) := by
      rw [List.getElem?_append_left (by rw [wl_len]; omega)]
      have := wl_get (cy := cy) (ad := ad) (n := n) (M := M) (r := q - B + 4) (by omega) (by omega)
      rwa [show q - B + 4 - 4 = q - B by omega] at this
    have h5 := hD1.1 (q - B) (n - 4) _ _ hr hl (by show ad (q - B + 4) = q; rw [hA.1 _ (by omega)]; omega)
    omega
  · omega
theorem mod_i {n r k : Nat} {x : Int32} {M : Mm} {s : State} {H : Heap} (hr : 4 ≤ r) (hB : Bs ad B M s H) : Bs ad B (M.1, sI M.2 r k x) s H := hB.of (fun r' hr' => gI_ne (by omega))
theorem cond_le {b : Bool} {x y N : Nat} (hx : x ≤ N) (hy : y ≤ N) : (bif b then x else y) ≤ N := by cases b <;> assumption
theorem ln_lt (r : Nat) : ln r ≤ 4000 := by
  unfold ln
  repeat' (first | apply cond_le | exact Nat.le_of_ble_eq_true rfl)

set_option maxHeartbeats 4000000 in
set_option maxRecDepth 100000 in
theorem step_plain {o : Op} {pc n : Nat} {am st : List Value} {M : Mm} {K : KT} {C : CT} (X : Cx p R s m args meth c D cy ad B d n0 nE mu) (hok : okOp mu pc o = true) (hpl : plainOp o.1 = true)
    (hK : ∀ pc' am' st' n' M', K pc' am' st' n' M' → Go p l e R s m args below meth c D cy ad B n0 nE mu Q n' pc' am' st' M') (h : stepW nE d n (rz mu) o K C Q am st M) : Go p l e R s m args below meth c D cy ad B n0 nE mu Q n pc am st M := by
  obtain ⟨hx, hb, hml, hown, hts, hret, hlocks, hname, hRf, hRl, hRc, hRs, hs0, hn4, hK0, hN, hA, hz, hNT⟩ := id X
  obtain ⟨i, nx, a, b, c0, v, w, cs⟩ := o
  cases i with
  | iconst k =>
    obtain ⟨hk, hnx, hd⟩ := ok3 hok
    have hnx := Nat.eq_of_beq_eq_true hnx
    subst hnx
    have hd := of_decide_eq_true hd
    intro H locs ls hP hD hS hB h0 h1 hlen hl
    exact lv_iconst hx hb hd (of_decide_eq_true hk) (hK _ _ _ _ _ h H locs ls hP hD hS hB h0 h1 hlen hl)
  | bipush k =>
    obtain ⟨hk, hnx, hd⟩ := ok3 hok
    have hnx := Nat.eq_of_beq_eq_true hnx
    subst hnx
    have hd := of_decide_eq_true hd
    intro H locs ls hP hD hS hB h0 h1 hlen hl
    exact lv_bipush hx hb hd (of_decide_eq_true hk) (hK _ _ _ _ _ h H locs ls hP hD hS hB h0 h1 hlen hl)
  | sipush k =>
    obtain ⟨hk, hnx, hd⟩ := ok3 hok
    have hnx := Nat.eq_of_beq_eq_true hnx
    subst hnx
    have hd := of_decide_eq_true hd
    intro H locs ls hP hD hS hB h0 h1 hlen hl
    exact lv_sipush hx hb hd (of_decide_eq_true hk) (hK _ _ _ _ _ h H locs ls hP hD hS hB h0 h1 hlen hl)
  | lconst k =>
    obtain ⟨hk, hnx, hd⟩ := ok3 hok
    have hnx := Nat.eq_of_beq_eq_true hnx
    subst hnx
    have hd := of_decide_eq_true hd
    intro H locs ls hP hD hS hB h0 h1 hlen hl
    exact lv_lconst hx hb hd (of_decide_eq_true hk) (hK _ _ _ _ _ h H locs ls hP hD hS hB h0 h1 hlen hl)
  | ldc x =>
    obtain ⟨hk, hnx, hd⟩ := ok3 hok
    have hnx := Nat.eq_of_beq_eq_true hnx
    subst hnx
    have hd := of_decide_eq_true hd
    intro H locs ls hP hD hS hB h0 h1 hlen hl
    obtain ⟨hk1, hk2⟩ := ok2 hk
    have hk2 := of_decide_eq_true hk2
    subst hk2
    exact lv_ldc hx hb hown (hts (wX c0 (4, mo mu, x, 0, 0)) (wIs_g hk1 (show (4 : Nat) ≠ 2 by decide) (show (4 : Nat) ≠ 13 by decide) (show (4 : Nat) ≠ 16 by decide))) hd (hK _ _ _ _ _ h H locs ls hP hD hS hB h0 h1 hlen hl)
  | ldc_w x =>
    obtain ⟨hk, hnx, hd⟩ := ok3 hok
    have hnx := Nat.eq_of_beq_eq_true hnx
    subst hnx
    have hd := of_decide_eq_true hd
    intro H locs ls hP hD hS hB h0 h1 hlen hl
    obtain ⟨hk1, hk2⟩ := ok2 hk
    have hk2 := of_decide_eq_true hk2
    subst hk2
    exact lv_ldcw hx hb hown (hts (wX c0 (4, mo mu, x, 0, 0)) (wIs_g hk1 (show (4 : Nat) ≠ 2 by decide) (show (4 : Nat) ≠ 13 by decide) (show (4 : Nat) ≠ 16 by decide))) hd (hK _ _ _ _ _ h H locs ls hP hD hS hB h0 h1 hlen hl)
  | ldc2_w x =>
    obtain ⟨hk, hnx, hd⟩ := ok3 hok
    have hnx := Nat.eq_of_beq_eq_true hnx
    subst hnx
    have hd := of_decide_eq_true hd
    intro H locs ls hP hD hS hB h0 h1 hlen hl
    obtain ⟨hk1, hk2⟩ := ok2 hk
    have hk2 := of_decide_eq_true hk2
    subst hk2
    exact lv_ldc2 hx hb hown (hts (wX c0 (5, mo mu, x, 0, 0)) (wIs_g hk1 (show (5 : Nat) ≠ 2 by decide) (show (5 : Nat) ≠ 13 by decide) (show (5 : Nat) ≠ 16 by decide))) hd (hK _ _ _ _ _ h H locs ls hP hD hS hB h0 h1 hlen hl)
  | aconst_null =>
    have hok : (okB mu pc .aconst_null nx a b c0 v w cs && (Nat.beq nx (pc + len1 .aconst_null) && decide (decode (Bc mu) pc = .ok (.aconst_null, len1 .aconst_null)))) = true := hok
    obtain ⟨hk, hnx, hd⟩ := ok3 hok
    have hnx := Nat.eq_of_beq_eq_true hnx
    subst hnx
    have hd := of_decide_eq_true hd
    intro H locs ls hP hD hS hB h0 h1 hlen hl
    exact lv_null hx hb hd (hK _ _ _ _ _ h H locs ls hP hD hS hB h0 h1 hlen hl)
  | iload x =>
    obtain ⟨hk, hnx, hd⟩ := ok3 hok
    have hnx := Nat.eq_of_beq_eq_true hnx
    subst hnx
    have hd := of_decide_eq_true hd
    intro H locs ls hP hD hS hB h0 h1 hlen hl
    have hk := Nat.eq_of_beq_eq_true hk
    subst hk
    obtain ⟨y, hg, h⟩ := vI_e h
    exact lv_iload hx hb hd (hl.get hg rfl) (hK _ _ _ _ _ h H locs ls hP hD hS hB h0 h1 hlen hl)
  | iload_n x =>
    obtain ⟨hk, hnx, hd⟩ := ok3 hok
    have hnx := Nat.eq_of_beq_eq_true hnx
    subst hnx
    have hd := of_decide_eq_true hd
    intro H locs ls hP hD hS hB h0 h1 hlen hl
    have hk := Nat.eq_of_beq_eq_true hk
    subst hk
    obtain ⟨y, hg, h⟩ := vI_e h
    exact lv_iload_n hx hb hd rfl (hl.get hg rfl) (hK _ _ _ _ _ h H locs ls hP hD hS hB h0 h1 hlen hl)
  | lload x =>
    obtain ⟨hk, hnx, hd⟩ := ok3 hok
    have hnx := Nat.eq_of_beq_eq_true hnx
    subst hnx
    have hd := of_decide_eq_true hd
    intro H locs ls hP hD hS hB h0 h1 hlen hl
    have hk := Nat.eq_of_beq_eq_true hk
    subst hk
    obtain ⟨y, hg, h⟩ := vL_e h
    exact lv_lload hx hb hd (hl.get hg rfl) (hK _ _ _ _ _ h H locs ls hP hD hS hB h0 h1 hlen hl)
  | lload_n x =>
    obtain ⟨hk, hnx, hd⟩ := ok3 hok
    have hnx := Nat.eq_of_beq_eq_true hnx
    subst hnx
    have hd := of_decide_eq_true hd
    intro H locs ls hP hD hS hB h0 h1 hlen hl
    have hk := Nat.eq_of_beq_eq_true hk
    subst hk
    obtain ⟨y, hg, h⟩ := vL_e h
    exact lv_lload_n hx hb hd rfl (hl.get hg rfl) (hK _ _ _ _ _ h H locs ls hP hD hS hB h0 h1 hlen hl)
  | aload x =>
    obtain ⟨hk, hnx, hd⟩ := ok3 hok
    have hnx := Nat.eq_of_beq_eq_true hnx
    subst hnx
    have hd := of_decide_eq_true hd
    intro H locs ls hP hD hS hB h0 h1 hlen hl
    have hk := Nat.eq_of_beq_eq_true hk
    subst hk
    rcases vA_e h with ⟨hg, h⟩ | ⟨y, hg, h⟩
    · exact lv_aloadN hx hb hd (hl.get hg rfl) (hK _ _ _ _ _ h H locs ls hP hD hS hB h0 h1 hlen hl)
    · exact lv_aload hx hb hd (hl.get hg rfl) (hK _ _ _ _ _ h H locs ls hP hD hS hB h0 h1 hlen hl)
  | istore x =>
    obtain ⟨hk, hnx, hd⟩ := ok3 hok
    have hnx := Nat.eq_of_beq_eq_true hnx
    subst hnx
    have hd := of_decide_eq_true hd
    intro H locs ls hP hD hS hB h0 h1 hlen hl
    have hk := Nat.eq_of_beq_eq_true hk
    subst hk
    obtain ⟨hlt, h⟩ := bK_e h
    have hlt := Nat.le_of_ble_eq_true hlt
    obtain ⟨y, r, rfl, h⟩ := pI_e h
    exact lv_istore hx hb hd hl.has hlt rfl (fun ls hl => hK _ _ _ _ _ h H locs ls hP hD hS hB h0 h1 (by rw [st1_len]; exact hlen) (LR.set1 (v := .int y) hl))
  | lstore x =>
    obtain ⟨hk, hnx, hd⟩ := ok3 hok
    have hnx := Nat.eq_of_beq_eq_true hnx
    subst hnx
    have hd := of_decide_eq_true hd
    intro H locs ls hP hD hS hB h0 h1 hlen hl
    have hk := Nat.eq_of_beq_eq_true hk
    subst hk
    obtain ⟨hlt, h⟩ := bK_e h
    have hlt := Nat.le_of_ble_eq_true hlt
    obtain ⟨y, r, rfl, h⟩ := pL_e h
    exact lv_lstore hx hb hd hl.has hlt rfl (fun ls hl => hK _ _ _ _ _ h H locs ls hP hD hS hB h0 h1 (by rw [st2_len]; exact hlen) (LR.set2 (v := .long y) hl))
  | astore x =>
    obtain ⟨hk, hnx, hd⟩ := ok3 hok
    have hnx := Nat.eq_of_beq_eq_true hnx
    subst hnx
    have hd := of_decide_eq_true hd
    intro H locs ls hP hD hS hB h0 h1 hlen hl
    have hk := Nat.eq_of_beq_eq_true hk
    subst hk
    obtain ⟨hlt, h⟩ := bK_e h
    have hlt := Nat.le_of_ble_eq_true hlt
    rcases pA_e h with ⟨r, rfl, h⟩ | ⟨y, r, rfl, h⟩
    · exact lv_astoreN hx hb hd hl.has hlt rfl (fun ls hl => hK _ _ _ _ _ h H locs ls hP hD hS hB h0 h1 (by rw [st1_len]; exact hlen) (LR.set1 (v := .null) hl))
    · exact lv_astore hx hb hd hl.has hlt rfl (fun ls hl => hK _ _ _ _ _ h H locs ls hP hD hS hB h0 h1 (by rw [st1_len]; exact hlen) (LR.set1 (v := .ref y) hl))
  | aload_n x =>
    obtain ⟨hk, hnx, hd⟩ := ok3 hok
    have hnx := Nat.eq_of_beq_eq_true hnx
    subst hnx
    have hd := of_decide_eq_true hd
    intro H locs ls hP hD hS hB h0 h1 hlen hl
    have hk := Nat.eq_of_beq_eq_true hk
    subst hk
    rcases vA_e h with ⟨hg, h⟩ | ⟨y, hg, h⟩
    · exact lv_aload_nN hx hb hd rfl (hl.get hg rfl) (hK _ _ _ _ _ h H locs ls hP hD hS hB h0 h1 hlen hl)
    · exact lv_aload_n hx hb hd rfl (hl.get hg rfl) (hK _ _ _ _ _ h H locs ls hP hD hS hB h0 h1 hlen hl)
  | istore_n x =>
    obtain ⟨hk, hnx, hd⟩ := ok3 hok
    have hnx := Nat.eq_of_beq_eq_true hnx
    subst hnx
    have hd := of_decide_eq_true hd
    intro H locs ls hP hD hS hB h0 h1 hlen hl
    have hk := Nat.eq_of_beq_eq_true hk
    subst hk
    obtain ⟨hlt, h⟩ := bK_e h
    have hlt := Nat.le_of_ble_eq_true hlt
    obtain ⟨y, r, rfl, h⟩ := pI_e h
    exact lv_istore_n hx hb hd rfl hl.has hlt rfl (fun ls hl => hK _ _ _ _ _ h H locs ls hP hD hS hB h0 h1 (by rw [st1_len]; exact hlen) (LR.set1 (v := .int y) hl))
  | lstore_n x =>
    obtain ⟨hk, hnx, hd⟩ := ok3 hok
    have hnx := Nat.eq_of_beq_eq_true hnx
    subst hnx
    have hd := of_decide_eq_true hd
    intro H locs ls hP hD hS hB h0 h1 hlen hl
    have hk := Nat.eq_of_beq_eq_true hk
    subst hk
    obtain ⟨hlt, h⟩ := bK_e h
    have hlt := Nat.le_of_ble_eq_true hlt
    obtain ⟨y, r, rfl, h⟩ := pL_e h
    exact lv_lstore_n hx hb hd rfl hl.has hlt rfl (fun ls hl => hK _ _ _ _ _ h H locs ls hP hD hS hB h0 h1 (by rw [st2_len]; exact hlen) (LR.set2 (v := .long y) hl))
  | astore_n x =>
    obtain ⟨hk, hnx, hd⟩ := ok3 hok
    have hnx := Nat.eq_of_beq_eq_true hnx
    subst hnx
    have hd := of_decide_eq_true hd
    intro H locs ls hP hD hS hB h0 h1 hlen hl
    have hk := Nat.eq_of_beq_eq_true hk
    subst hk
    obtain ⟨hlt, h⟩ := bK_e h
    have hlt := Nat.le_of_ble_eq_true hlt
    rcases pA_e h with ⟨r, rfl, h⟩ | ⟨y, r, rfl, h⟩
    · exact lv_astore_nN hx hb hd rfl hl.has hlt rfl (fun ls hl => hK _ _ _ _ _ h H locs ls hP hD hS hB h0 h1 (by rw [st1_len]; exact hlen) (LR.set1 (v := .null) hl))
    · exact lv_astore_n hx hb hd rfl hl.has hlt rfl (fun ls hl => hK _ _ _ _ _ h H locs ls hP hD hS hB h0 h1 (by rw [st1_len]; exact hlen) (LR.set1 (v := .ref y) hl))
  | iinc x k =>
    obtain ⟨hk, hnx, hd⟩ := ok3 hok
    have hnx := Nat.eq_of_beq_eq_true hnx
    subst hnx
    have hd := of_decide_eq_true hd
    intro H locs ls hP hD hS hB h0 h1 hlen hl
    obtain ⟨hk, hk2⟩ := ok2 hk
    have hk := Nat.eq_of_beq_eq_true hk
    subst hk
    have hk2 := of_decide_eq_true hk2
    obtain ⟨hlt, h⟩ := bK_e h
    have hlt := Nat.le_of_ble_eq_true hlt
    obtain ⟨y, hg, h⟩ := vI_e h
    obtain ⟨j, hj⟩ := List.getElem?_of_mem (al_mem (ad := ad) am 0 x _ (gl_some am x _ hg rfl) rfl)
    rw [Nat.zero_add] at hj
    exact lv_iinc (k := j) hx hb hd hl.has hj (by rw [hk2]) hlt rfl (fun ls hl => hK _ _ _ _ _ h H locs ls hP hD hS hB h0 h1 (by rw [st1_len]; exact hlen) (LR.set1 (v := .int (y + v)) hl))
  | iadd =>
    have hok : (okB mu pc .iadd nx a b c0 v w cs && (Nat.beq nx (pc + len1 .iadd) && decide (decode (Bc mu) pc = .ok (.iadd, len1 .iadd)))) = true := hok
    obtain ⟨hk, hnx, hd⟩ := ok3 hok
    have hnx := Nat.eq_of_beq_eq_true hnx
    subst hnx
    have hd := of_decide_eq_true hd
    intro H locs ls hP hD hS hB h0 h1 hlen hl
    obtain ⟨x, y, r, rfl, h⟩ := pII_e h
    exact lv_iadd hx hb hd (hK _ _ _ _ _ h H locs ls hP hD hS hB h0 h1 hlen hl)
  | isub =>
    have hok : (okB mu pc .isub nx a b c0 v w cs && (Nat.beq nx (pc + len1 .isub) && decide (decode (Bc mu) pc = .ok (.isub, len1 .isub)))) = true := hok
    obtain ⟨hk, hnx, hd⟩ := ok3 hok
    have hnx := Nat.eq_of_beq_eq_true hnx
    subst hnx
    have hd := of_decide_eq_true hd
    intro H locs ls hP hD hS hB h0 h1 hlen hl
    obtain ⟨x, y, r, rfl, h⟩ := pII_e h
    exact lv_isub hx hb hd (hK _ _ _ _ _ h H locs ls hP hD hS hB h0 h1 hlen hl)
  | imul =>
    have hok : (okB mu pc .imul nx a b c0 v w cs && (Nat.beq nx (pc + len1 .imul) && decide (decode (Bc mu) pc = .ok (.imul, len1 .imul)))) = true := hok
    obtain ⟨hk, hnx, hd⟩ := ok3 hok
    have hnx := Nat.eq_of_beq_eq_true hnx
    subst hnx
    have hd := of_decide_eq_true hd
    intro H locs ls hP hD hS hB h0 h1 hlen hl
    obtain ⟨x, y, r, rfl, h⟩ := pII_e h
    exact lv_imul hx hb hd (hK _ _ _ _ _ h H locs ls hP hD hS hB h0 h1 hlen hl)
  | iand =>
    have hok : (okB mu pc .iand nx a b c0 v w cs && (Nat.beq nx (pc + len1 .iand) && decide (decode (Bc mu) pc = .ok (.iand, len1 .iand)))) = true := hok
    obtain ⟨hk, hnx, hd⟩ := ok3 hok
    have hnx := Nat.eq_of_beq_eq_true hnx
    subst hnx
    have hd := of_decide_eq_true hd
    intro H locs ls hP hD hS hB h0 h1 hlen hl
    obtain ⟨x, y, r, rfl, h⟩ := pII_e h
    exact lv_iand hx hb hd (hK _ _ _ _ _ h H locs ls hP hD hS hB h0 h1 hlen hl)
  | ior =>
    have hok : (okB mu pc .ior nx a b c0 v w cs && (Nat.beq nx (pc + len1 .ior) && decide (decode (Bc mu) pc = .ok (.ior, len1 .ior)))) = true := hok
    obtain ⟨hk, hnx, hd⟩ := ok3 hok
    have hnx := Nat.eq_of_beq_eq_true hnx
    subst hnx
    have hd := of_decide_eq_true hd
    intro H locs ls hP hD hS hB h0 h1 hlen hl
    obtain ⟨x, y, r, rfl, h⟩ := pII_e h
    exact lv_ior hx hb hd (hK _ _ _ _ _ h H locs ls hP hD hS hB h0 h1 hlen hl)
  | ixor =>
    have hok : (okB mu pc .ixor nx a b c0 v w cs && (Nat.beq nx (pc + len1 .ixor) && decide (decode (Bc mu) pc = .ok (.ixor, len1 .ixor)))) = true := hok
    obtain ⟨hk, hnx, hd⟩ := ok3 hok
    have hnx := Nat.eq_of_beq_eq_true hnx
    subst hnx
    have hd := of_decide_eq_true hd
    intro H locs ls hP hD hS hB h0 h1 hlen hl
    obtain ⟨x, y, r, rfl, h⟩ := pII_e h
    exact lv_ixor hx hb hd (hK _ _ _ _ _ h H locs ls hP hD hS hB h0 h1 hlen hl)
  | ishl =>
    have hok : (okB mu pc .ishl nx a b c0 v w cs && (Nat.beq nx (pc + len1 .ishl) && decide (decode (Bc mu) pc = .ok (.ishl, len1 .ishl)))) = true := hok
    obtain ⟨hk, hnx, hd⟩ := ok3 hok
    have hnx := Nat.eq_of_beq_eq_true hnx
    subst hnx
    have hd := of_decide_eq_true hd
    intro H locs ls hP hD hS hB h0 h1 hlen hl
    obtain ⟨x, y, r, rfl, h⟩ := pII_e h
    exact lv_ishl hx hb hd (hK _ _ _ _ _ h H locs ls hP hD hS hB h0 h1 hlen hl)
  | ishr =>
    have hok : (okB mu pc .ishr nx a b c0 v w cs && (Nat.beq nx (pc + len1 .ishr) && decide (decode (Bc mu) pc = .ok (.ishr, len1 .ishr)))) = true := hok
    obtain ⟨hk, hnx, hd⟩ := ok3 hok
    have hnx := Nat.eq_of_beq_eq_true hnx
    subst hnx
    have hd := of_decide_eq_true hd
    intro H locs ls hP hD hS hB h0 h1 hlen hl
    obtain ⟨x, y, r, rfl, h⟩ := pII_e h
    exact lv_ishr hx hb hd (hK _ _ _ _ _ h H locs ls hP hD hS hB h0 h1 hlen hl)
  | iushr =>
    have hok : (okB mu pc .iushr nx a b c0 v w cs && (Nat.beq nx (pc + len1 .iushr) && decide (decode (Bc mu) pc = .ok (.iushr, len1 .iushr)))) = true := hok
    obtain ⟨hk, hnx, hd⟩ := ok3 hok
    have hnx := Nat.eq_of_beq_eq_true hnx
    subst hnx
    have hd := of_decide_eq_true hd
    intro H locs ls hP hD hS hB h0 h1 hlen hl
    obtain ⟨x, y, r, rfl, h⟩ := pII_e h
    exact lv_iushr hx hb hd rfl (hK _ _ _ _ _ h H locs ls hP hD hS hB h0 h1 hlen hl)
  | idiv =>
    have hok : (okB mu pc .idiv nx a b c0 v w cs && (Nat.beq nx (pc + len1 .idiv) && decide (decode (Bc mu) pc = .ok (.idiv, len1 .idiv)))) = true := hok
    obtain ⟨hk, hnx, hd⟩ := ok3 hok
    have hnx := Nat.eq_of_beq_eq_true hnx
    subst hnx
    have hd := of_decide_eq_true hd
    intro H locs ls hP hD hS hB h0 h1 hlen hl
    obtain ⟨x, y, r, rfl, h⟩ := pII_e h
    obtain ⟨hne, h⟩ := nzK_e h
    exact lv_idiv hx hb hd hne (hK _ _ _ _ _ h H locs ls hP hD hS hB h0 h1 hlen hl)
  | irem =>
    have hok : (okB mu pc .irem nx a b c0 v w cs && (Nat.beq nx (pc + len1 .irem) && decide (decode (Bc mu) pc = .ok (.irem, len1 .irem)))) = true := hok
    obtain ⟨hk, hnx, hd⟩ := ok3 hok
    have hnx := Nat.eq_of_beq_eq_true hnx
    subst hnx
    have hd := of_decide_eq_true hd
    intro H locs ls hP hD hS hB h0 h1 hlen hl
    obtain ⟨x, y, r, rfl, h⟩ := pII_e h
    obtain ⟨hne, h⟩ := nzK_e h
    exact lv_irem hx hb hd hne (hK _ _ _ _ _ h H locs ls hP hD hS hB h0 h1 hlen hl)
  | ineg =>
    have hok : (okB mu pc .ineg nx a b c0 v w cs && (Nat.beq nx (pc + len1 .ineg) && decide (decode (Bc mu) pc = .ok (.ineg, len1 .ineg)))) = true := hok
    obtain ⟨hk, hnx, hd⟩ := ok3 hok
    have hnx := Nat.eq_of_beq_eq_true hnx
    subst hnx
    have hd := of_decide_eq_true hd
    intro H locs ls hP hD hS hB h0 h1 hlen hl
    obtain ⟨x, r, rfl, h⟩ := pI_e h
    exact lv_ineg hx hb hd (hK _ _ _ _ _ h H locs ls hP hD hS hB h0 h1 hlen hl)
  | ladd =>
    have hok : (okB mu pc .ladd nx a b c0 v w cs && (Nat.beq nx (pc + len1 .ladd) && decide (decode (Bc mu) pc = .ok (.ladd, len1 .ladd)))) = true := hok
    obtain ⟨hk, hnx, hd⟩ := ok3 hok
    have hnx := Nat.eq_of_beq_eq_true hnx
    subst hnx
    have hd := of_decide_eq_true hd
    intro H locs ls hP hD hS hB h0 h1 hlen hl
    obtain ⟨x, y, r, rfl, h⟩ := pLL_e h
    exact lv_ladd hx hb hd (hK _ _ _ _ _ h H locs ls hP hD hS hB h0 h1 hlen hl)
  | land =>
    have hok : (okB mu pc .land nx a b c0 v w cs && (Nat.beq nx (pc + len1 .land) && decide (decode (Bc mu) pc = .ok (.land, len1 .land)))) = true := hok
    obtain ⟨hk, hnx, hd⟩ := ok3 hok
    have hnx := Nat.eq_of_beq_eq_true hnx
    subst hnx
    have hd := of_decide_eq_true hd
    intro H locs ls hP hD hS hB h0 h1 hlen hl
    obtain ⟨x, y, r, rfl, h⟩ := pLL_e h
    exact lv_land hx hb hd (hK _ _ _ _ _ h H locs ls hP hD hS hB h0 h1 hlen hl)
  | lor =>
    have hok : (okB mu pc .lor nx a b c0 v w cs && (Nat.beq nx (pc + len1 .lor) && decide (decode (Bc mu) pc = .ok (.lor, len1 .lor)))) = true := hok
    obtain ⟨hk, hnx, hd⟩ := ok3 hok
    have hnx := Nat.eq_of_beq_eq_true hnx
    subst hnx
    have hd := of_decide_eq_true hd
    intro H locs ls hP hD hS hB h0 h1 hlen hl
    obtain ⟨x, y, r, rfl, h⟩ := pLL_e h
    exact lv_lor hx hb hd (hK _ _ _ _ _ h H locs ls hP hD hS hB h0 h1 hlen hl)
  | lxor =>
    have hok : (okB mu pc .lxor nx a b c0 v w cs && (Nat.beq nx (pc + len1 .lxor) && decide (decode (Bc mu) pc = .ok (.lxor, len1 .lxor)))) = true := hok
    obtain ⟨hk, hnx, hd⟩ := ok3 hok
    have hnx := Nat.eq_of_beq_eq_true hnx
    subst hnx
    have hd := of_decide_eq_true hd
    intro H locs ls hP hD hS hB h0 h1 hlen hl
    obtain ⟨x, y, r, rfl, h⟩ := pLL_e h
    exact lv_lxor hx hb hd (hK _ _ _ _ _ h H locs ls hP hD hS hB h0 h1 hlen hl)
  | lcmp =>
    have hok : (okB mu pc .lcmp nx a b c0 v w cs && (Nat.beq nx (pc + len1 .lcmp) && decide (decode (Bc mu) pc = .ok (.lcmp, len1 .lcmp)))) = true := hok
    obtain ⟨hk, hnx, hd⟩ := ok3 hok
    have hnx := Nat.eq_of_beq_eq_true hnx
    subst hnx
    have hd := of_decide_eq_true hd
    intro H locs ls hP hD hS hB h0 h1 hlen hl
    obtain ⟨x, y, r, rfl, h⟩ := pLL_e h
    exact W.lcmp hx hb hd (hK _ _ _ _ _ h H locs ls hP hD hS hB h0 h1 hlen hl)
  | lshl =>
    have hok : (okB mu pc .lshl nx a b c0 v w cs && (Nat.beq nx (pc + len1 .lshl) && decide (decode (Bc mu) pc = .ok (.lshl, len1 .lshl)))) = true := hok
    obtain ⟨hk, hnx, hd⟩ := ok3 hok
    have hnx := Nat.eq_of_beq_eq_true hnx
    subst hnx
    have hd := of_decide_eq_true hd
    intro H locs ls hP hD hS hB h0 h1 hlen hl
    obtain ⟨x, y, r, rfl, h⟩ := pLI_e h
    exact lv_lshl hx hb hd rfl (hK _ _ _ _ _ h H locs ls hP hD hS hB h0 h1 hlen hl)
  | lushr =>
    have hok : (okB mu pc .lushr nx a b c0 v w cs && (Nat.beq nx (pc + len1 .lushr) && decide (decode (Bc mu) pc = .ok (.lushr, len1 .lushr)))) = true := hok
    obtain ⟨hk, hnx, hd⟩ := ok3 hok
    have hnx := Nat.eq_of_beq_eq_true hnx
    subst hnx
    have hd := of_decide_eq_true hd
    intro H locs ls hP hD hS hB h0 h1 hlen hl
    obtain ⟨x, y, r, rfl, h⟩ := pLI_e h
    exact lv_lushr hx hb hd rfl (hK _ _ _ _ _ h H locs ls hP hD hS hB h0 h1 hlen hl)
  | i2l =>
    have hok : (okB mu pc .i2l nx a b c0 v w cs && (Nat.beq nx (pc + len1 .i2l) && decide (decode (Bc mu) pc = .ok (.i2l, len1 .i2l)))) = true := hok
    obtain ⟨hk, hnx, hd⟩ := ok3 hok
    have hnx := Nat.eq_of_beq_eq_true hnx
    subst hnx
    have hd := of_decide_eq_true hd
    intro H locs ls hP hD hS hB h0 h1 hlen hl
    obtain ⟨x, r, rfl, h⟩ := pI_e h
    exact lv_i2l hx hb hd rfl (hK _ _ _ _ _ h H locs ls hP hD hS hB h0 h1 hlen hl)
  | i2b =>
    have hok : (okB mu pc .i2b nx a b c0 v w cs && (Nat.beq nx (pc + len1 .i2b) && decide (decode (Bc mu) pc = .ok (.i2b, len1 .i2b)))) = true := hok
    obtain ⟨hk, hnx, hd⟩ := ok3 hok
    have hnx := Nat.eq_of_beq_eq_true hnx
    subst hnx
    have hd := of_decide_eq_true hd
    intro H locs ls hP hD hS hB h0 h1 hlen hl
    obtain ⟨x, r, rfl, h⟩ := pI_e h
    exact lv_i2b hx hb hd rfl (hK _ _ _ _ _ h H locs ls hP hD hS hB h0 h1 hlen hl)
  | i2s =>
    have hok : (okB mu pc .i2s nx a b c0 v w cs && (Nat.beq nx (pc + len1 .i2s) && decide (decode (Bc mu) pc = .ok (.i2s, len1 .i2s)))) = true := hok
    obtain ⟨hk, hnx, hd⟩ := ok3 hok
    have hnx := Nat.eq_of_beq_eq_true hnx
    subst hnx
    have hd := of_decide_eq_true hd
    intro H locs ls hP hD hS hB h0 h1 hlen hl
    obtain ⟨x, r, rfl, h⟩ := pI_e h
    exact lv_i2s hx hb hd rfl (hK _ _ _ _ _ h H locs ls hP hD hS hB h0 h1 hlen hl)
  | l2i =>
    have hok : (okB mu pc .l2i nx a b c0 v w cs && (Nat.beq nx (pc + len1 .l2i) && decide (decode (Bc mu) pc = .ok (.l2i, len1 .l2i)))) = true := hok
    obtain ⟨hk, hnx, hd⟩ := ok3 hok
    have hnx := Nat.eq_of_beq_eq_true hnx
    subst hnx
    have hd := of_decide_eq_true hd
    intro H locs ls hP hD hS hB h0 h1 hlen hl
    obtain ⟨x, r, rfl, h⟩ := pL_e h
    exact lv_l2i hx hb hd rfl (hK _ _ _ _ _ h H locs ls hP hD hS hB h0 h1 hlen hl)
  | goto off =>
    obtain ⟨hk, hnx, hd⟩ := ok3 hok
    have hnx := Nat.eq_of_beq_eq_true hnx
    subst hnx
    have hd := of_decide_eq_true hd
    intro H locs ls hP hD hS hB h0 h1 hlen hl
    exact lv_goto hx hb hd (of_decide_eq_true hk) (hK _ _ _ _ _ h H locs ls hP hD hS hB h0 h1 hlen hl)
  | ifCond cc off =>
    obtain ⟨hk, hnx, hd⟩ := ok3 hok
    have hnx := Nat.eq_of_beq_eq_true hnx
    subst hnx
    have hd := of_decide_eq_true hd
    intro H locs ls hP hD hS hB h0 h1 hlen hl
    cases cc
    · obtain ⟨x, r, rfl, h⟩ := pI_e h
      exact lv_if_eq hx hb hd (of_decide_eq_true hk) (fun q => hK _ _ _ _ _ (h.1 q) H locs ls hP hD hS hB h0 h1 hlen hl) (fun q => hK _ _ _ _ _ (h.2 q) H locs ls hP hD hS hB h0 h1 hlen hl)
    · obtain ⟨x, r, rfl, h⟩ := pI_e h
      exact lv_if_ne hx hb hd (of_decide_eq_true hk) (fun q => hK _ _ _ _ _ (h.2 q) H locs ls hP hD hS hB h0 h1 hlen hl) (fun q => hK _ _ _ _ _ (h.1 q) H locs ls hP hD hS hB h0 h1 hlen hl)
    · obtain ⟨x, r, rfl, h⟩ := pI_e h
      exact lv_if_lt hx hb hd (of_decide_eq_true hk) (fun q => hK _ _ _ _ _ (h.1 q) H locs ls hP hD hS hB h0 h1 hlen hl) (fun q => hK _ _ _ _ _ (h.2 q) H locs ls hP hD hS hB h0 h1 hlen hl)
    · obtain ⟨x, r, rfl, h⟩ := pI_e h
      exact lv_if_ge hx hb hd (of_decide_eq_true hk) (fun q => hK _ _ _ _ _ (h.1 q) H locs ls hP hD hS hB h0 h1 hlen hl) (fun q => hK _ _ _ _ _ (h.2 q) H locs ls hP hD hS hB h0 h1 hlen hl)
    · obtain ⟨x, r, rfl, h⟩ := pI_e h
      exact lv_if_gt hx hb hd (of_decide_eq_true hk) (fun q => hK _ _ _ _ _ (h.1 q) H locs ls hP hD hS hB h0 h1 hlen hl) (fun q => hK _ _ _ _ _ (h.2 q) H locs ls hP hD hS hB h0 h1 hlen hl)
    · obtain ⟨x, r, rfl, h⟩ := pI_e h
      exact lv_if_le hx hb hd (of_decide_eq_true hk) (fun q => hK _ _ _ _ _ (h.1 q) H locs ls hP hD hS hB h0 h1 hlen hl) (fun q => hK _ _ _ _ _ (h.2 q) H locs ls hP hD hS hB h0 h1 hlen hl)
  | if_icmp cc off =>
    obtain ⟨hk, hnx, hd⟩ := ok3 hok
    have hnx := Nat.eq_of_beq_eq_true hnx
    subst hnx
    have hd := of_decide_eq_true hd
    intro H locs ls hP hD hS hB h0 h1 hlen hl
    cases cc
    · obtain ⟨x, y, r, rfl, h⟩ := pII_e h
      exact lv_icmp_eq hx hb hd (of_decide_eq_true hk) (fun q => hK _ _ _ _ _ (h.1 q) H locs ls hP hD hS hB h0 h1 hlen hl) (fun q => hK _ _ _ _ _ (h.2 q) H locs ls hP hD hS hB h0 h1 hlen hl)
    · obtain ⟨x, y, r, rfl, h⟩ := pII_e h
      exact lv_icmp_ne hx hb hd (of_decide_eq_true hk) (fun q => hK _ _ _ _ _ (h.2 q) H locs ls hP hD hS hB h0 h1 hlen hl) (fun q => hK _ _ _ _ _ (h.1 q) H locs ls hP hD hS hB h0 h1 hlen hl)
    · obtain ⟨x, y, r, rfl, h⟩ := pII_e h
      exact lv_icmp_lt hx hb hd (of_decide_eq_true hk) (fun q => hK _ _ _ _ _ (h.1 q) H locs ls hP hD hS hB h0 h1 hlen hl) (fun q => hK _ _ _ _ _ (h.2 q) H locs ls hP hD hS hB h0 h1 hlen hl)
    · obtain ⟨x, y, r, rfl, h⟩ := pII_e h
      exact lv_icmp_ge hx hb hd (of_decide_eq_true hk) (fun q => hK _ _ _ _ _ (h.1 q) H locs ls hP hD hS hB h0 h1 hlen hl) (fun q => hK _ _ _ _ _ (h.2 q) H locs ls hP hD hS hB h0 h1 hlen hl)
    · obtain ⟨x, y, r, rfl, h⟩ := pII_e h
      exact lv_icmp_gt hx hb hd (of_decide_eq_true hk) (fun q => hK _ _ _ _ _ (h.1 q) H locs ls hP hD hS hB h0 h1 hlen hl) (fun q => hK _ _ _ _ _ (h.2 q) H locs ls hP hD hS hB h0 h1 hlen hl)
    · obtain ⟨x, y, r, rfl, h⟩ := pII_e h
      exact lv_icmp_le hx hb hd (of_decide_eq_true hk) (fun q => hK _ _ _ _ _ (h.1 q) H locs ls hP hD hS hB h0 h1 hlen hl) (fun q => hK _ _ _ _ _ (h.2 q) H locs ls hP hD hS hB h0 h1 hlen hl)
  | ifnull off =>
    obtain ⟨hk, hnx, hd⟩ := ok3 hok
    have hnx := Nat.eq_of_beq_eq_true hnx
    subst hnx
    have hd := of_decide_eq_true hd
    intro H locs ls hP hD hS hB h0 h1 hlen hl
    rcases pA_e h with ⟨r, rfl, h⟩ | ⟨y, r, rfl, h⟩
    · exact lv_ifnullN hx hb hd (of_decide_eq_true hk) (hK _ _ _ _ _ h H locs ls hP hD hS hB h0 h1 hlen hl)
    · exact lv_ifnull hx hb hd (hK _ _ _ _ _ h H locs ls hP hD hS hB h0 h1 hlen hl)
  | ifnonnull off =>
    obtain ⟨hk, hnx, hd⟩ := ok3 hok
    have hnx := Nat.eq_of_beq_eq_true hnx
    subst hnx
    have hd := of_decide_eq_true hd
    intro H locs ls hP hD hS hB h0 h1 hlen hl
    rcases pA_e h with ⟨r, rfl, h⟩ | ⟨y, r, rfl, h⟩
    · exact lv_ifnonnullN hx hb hd (hK _ _ _ _ _ h H locs ls hP hD hS hB h0 h1 hlen hl)
    · exact lv_ifnonnull hx hb hd (of_decide_eq_true hk) (hK _ _ _ _ _ h H locs ls hP hD hS hB h0 h1 hlen hl)
  | dup =>
    have hok : (okB mu pc .dup nx a b c0 v w cs && (Nat.beq nx (pc + len1 .dup) && decide (decode (Bc mu) pc = .ok (.dup, len1 .dup)))) = true := hok
    obtain ⟨hk, hnx, hd⟩ := ok3 hok
    have hnx := Nat.eq_of_beq_eq_true hnx
    subst hnx
    have hd := of_decide_eq_true hd
    intro H locs ls hP hD hS hB h0 h1 hlen hl
    have h : pDup st (fun x r => K (pc + 1) am (x :: x :: r) n M) := h
    obtain ⟨x, r, rfl, hc, h⟩ := pDup_e h
    exact lv_dup hx hb hd (by rw [cv_cat]; exact hc) (hK _ _ _ _ _ h H locs ls hP hD hS hB h0 h1 hlen hl)
  | pop =>
    have hok : (okB mu pc .pop nx a b c0 v w cs && (Nat.beq nx (pc + len1 .pop) && decide (decode (Bc mu) pc = .ok (.pop, len1 .pop)))) = true := hok
    obtain ⟨hk, hnx, hd⟩ := ok3 hok
    have hnx := Nat.eq_of_beq_eq_true hnx
    subst hnx
    have hd := of_decide_eq_true hd
    intro H locs ls hP hD hS hB h0 h1 hlen hl
    have h : pDup st (fun _ r => K (pc + 1) am r n M) := h
    obtain ⟨x, r, rfl, hc, h⟩ := pDup_e h
    exact lv_pop hx hb hd (by rw [cv_cat]; exact hc) (hK _ _ _ _ _ h H locs ls hP hD hS hB h0 h1 hlen hl)
  | dup2 =>
    have hok : (okB mu pc .dup2 nx a b c0 v w cs && (Nat.beq nx (pc + len1 .dup2) && decide (decode (Bc mu) pc = .ok (.dup2, len1 .dup2)))) = true := hok
    obtain ⟨hk, hnx, hd⟩ := ok3 hok
    have hnx := Nat.eq_of_beq_eq_true hnx
    subst hnx
    have hd := of_decide_eq_true hd
    intro H locs ls hP hD hS hB h0 h1 hlen hl
    have h : pDup2 st (fun x r => K (pc + 1) am (.long x :: .long x :: r) n M) (fun x y r => K (pc + 1) am (x :: y :: x :: y :: r) n M) := h
    rcases pDup2_e h with ⟨x, r, rfl, h⟩ | ⟨x, y, r, rfl, hc, hc2, h⟩
    · exact lv_dup2_2 hx hb hd rfl (hK _ _ _ _ _ h H locs ls hP hD hS hB h0 h1 hlen hl)
    · exact lv_dup2_11 hx hb hd (by rw [cv_cat]; exact hc) (by rw [cv_cat]; exact hc2) (hK _ _ _ _ _ h H locs ls hP hD hS hB h0 h1 hlen hl)
  | tableswitch df lo hi os =>
    obtain ⟨hk, hnx, hd⟩ := ok3 hok
    have hd := of_decide_eq_true hd
    obtain ⟨hk1, hk2, hk3⟩ := ok3 hk
    have hk1 : (pc : Int) + df = (a : Int) := of_decide_eq_true hk1
    have hk3 : hi + 1 = lo + os.size := of_decide_eq_true hk3
    intro H locs ls hP hD hS hB h0 h1 hlen hl
    obtain ⟨x, r, rfl, h⟩ := pI_e h
    rcases okT_e _ _ _ hk2 h with ⟨j, off, t, e1, e2, e3, h⟩ | ⟨e1, h⟩
    · have hj : j < os.size := by
        have := (List.getElem?_eq_some_iff.mp e1).1
        simpa using this
      refine lv_tableIn (off := off) hx hb hd (by omega) (by omega) ?_ e2 (hK _ _ _ _ _ h H locs ls hP hD hS hB h0 h1 hlen hl)
      rw [show (x.toInt - lo).toNat = j by omega, ← Array.getElem?_toList]
      exact e1
    · refine lv_tableOut hx hb hd ?_ hk1 (hK _ _ _ _ _ h H locs ls hP hD hS hB h0 h1 hlen hl)
      simp only [Array.length_toList] at e1
      omega
  | lookupswitch df ps =>
    obtain ⟨hk, hnx, hd⟩ := ok3 hok
    have hd := of_decide_eq_true hd
    obtain ⟨hk1, hk2, hk3⟩ := ok3 hk
    have hk1 : (pc : Int) + df = (a : Int) := of_decide_eq_true hk1
    intro H locs ls hP hD hS hB h0 h1 hlen hl
    obtain ⟨x, r, rfl, h⟩ := pI_e h
    obtain ⟨off, t, e1, e2, h⟩ := okL_e hk1 _ _ hk2 h
    exact lv_lookup hx hb hd hk3 e1 e2 (hK _ _ _ _ _ h H locs ls hP hD hS hB h0 h1 hlen hl)
  | _ => first | exact (Bool.false_ne_true hpl).elim | exact h.elim
end STEP
