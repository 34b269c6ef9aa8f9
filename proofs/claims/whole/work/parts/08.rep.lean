/-! WHAT THE ABSTRACT MEMORY STANDS FOR -/
def cv (ad : Nat → Nat) (v : Value) : Value := match v with
  | .ref r => .ref (ad r)
  | v => v
def fv (ad : Nat → Nat) (M : Mm) (r k : Nat) : Value := bif Nat.beq (fk (kd r) k) 2 then va_rf ((M.1 r k).map ad) else .int (gI M.2 r k)
def en (cy : Nat → ClassId) (ad : Nat → Nat) (M : Mm) (r : Nat) : va_E :=
  bif Nat.blt (kd r) 13 then .inr (kd r, (List.range (cq (kd r)).2.2).map (fv ad M r)) else
  bif Nat.beq (kd r) 23 then .inl (cy 23, ln r, .inr (.inl (gL M.2 r))) else
  bif Nat.beq (kd r) 24 then .inl (cy 24, ln r, .inr (.inr (.inr (.inr (fun j => (M.1 r j).map ad))))) else
  .inl (cy (kd r), ln r, .inl (gI M.2 r))
def wl (cy : Nat → ClassId) (ad : Nat → Nat) (n : Nat) (M : Mm) : va_W := (List.range (n - 4)).map (fun j => (ad (j + 4), en cy ad M (j + 4)))
def tys (cy : Nat → ClassId) : List (ClassId × FieldType) := [(cy 20, .int), (cy 21, .byte), (cy 22, .short), (cy 23, .long), (cy 24, .object (cq 9).1)]
def SS : Nat → Nat
  | 0 => 0
  | n + 1 => SS n + (bif Nat.blt n 4 then 0 else ln n)
theorem SS_le {a b : Nat} (h : a ≤ b) : SS a ≤ SS b := by
  induction h with
  | refl => exact Nat.le_refl _
  | step _ ih => exact Nat.le_trans ih (Nat.le_add_right _ _)
def Bs (ad : Nat → Nat) (B : Nat) (M : Mm) (s : State) (H : Heap) : Prop :=
  (∀ r, r < 3 → va_T .int (ad r) (ln r) (fun j => .int (gI M.2 r j)) (fun q => B ≤ q) s H) ∧ va_X (ad 3) (ix (gI M.2 3 0)) (fun j => gI M.2 3 (j + 1)) s H ∧ (∀ r, r < 3 → (va_Z (zC r) (zF r) "[I" (.ref (ad r)) (fun q => B ≤ q) s H)) ∧ ix (gI M.2 3 0) ≤ 3072
def Ag (ad : Nat → Nat) (B : Nat) : Prop := (∀ r, 4 ≤ r → ad r = B + (r - 4)) ∧ ∀ r, r < 4 → ad r < B
/-- the words that a state holds beside the kept ones -/
def Nx (s : State) : Prop := (∀ i, i < NW → (wQ i).1 = 2 → va_Nw (wT i) s) ∧ va_AO (cq 9).1 s
def Rp (D : va_G) (cy : Nat → ClassId) (ad : Nat → Nat) (B n : Nat) (M : Mm) (s : State) : Prop :=
  s.heap.size = ad n ∧ va_K D vwCl (tys cy) s ∧ va_P D vwCl (wl cy ad n M) s.heap ∧ va_D (fun q => B ≤ q) (wl cy ad n M) ∧ Bs ad B M s s.heap ∧ Nx s ∧ 4 ≤ n
def Qp (D : va_G) (cy : Nat → ClassId) (ad : Nat → Nat) (B n : Nat) (Q : QT) : Array Value → State → Outcome → State → Prop := fun _ st oc t =>
  ∃ (r : Option Value) (M : Mm), oc = .returned (r.map (cv ad)) ∧ Q r M ∧ Rp D cy ad B n M t ∧ va_F (fun q => B ≤ q) st t
/-! the tables' words that last -/
def lw_g : List Cond := lw_tbl.filter goodWord
theorem wX_good (i : Nat) (t : Nat × Nat × Nat × Nat × Nat) (h : t.1 ≠ 2) (h2 : t.1 ≠ 13) (h3 : t.1 ≠ 16) : goodWord (wX i t) = true := by
  unfold wX
  split <;> first | rfl | exact absurd rfl h | exact absurd rfl h2 | exact absurd rfl h3
theorem wT_g {i : Nat} (h : i < NW) (h2 : (wQ i).1 ≠ 2) (h3 : (wQ i).1 ≠ 13) (h4 : (wQ i).1 ≠ 16) : wT i ∈ lw_g := List.mem_filter.mpr ⟨wT_in h, wX_good i _ h2 h3 h4⟩
theorem d5_eq {t u : Nat × Nat × Nat × Nat × Nat} (h : d5 t u = true) : t = u := by
  obtain ⟨a, b, c, d, e⟩ := t
  obtain ⟨a', b', c', d', e'⟩ := u
  simp only [d5, Bool.and_eq_true, Nat.beq_eq] at h
  obtain ⟨h1, h2, h3, h4, h5⟩ := h
  subst h1; subst h2; subst h3; subst h4; subst h5
  rfl
theorem wIs_eq {c : Nat} {t : Nat × Nat × Nat × Nat × Nat} (h : wIs c t = true) : c < NW ∧ wQ c = t := by
  simp only [wIs, Bool.and_eq_true] at h
  exact ⟨Nat.le_of_ble_eq_true h.1, d5_eq h.2⟩
theorem wIs_T {c : Nat} {t : Nat × Nat × Nat × Nat × Nat} (h : wIs c t = true) : wT c = wX c t := by
  unfold wT
  rw [(wIs_eq h).2]
theorem wIs_g {c : Nat} {t : Nat × Nat × Nat × Nat × Nat} (h : wIs c t = true) (h2 : t.1 ≠ 2) (h3 : t.1 ≠ 13) (h4 : t.1 ≠ 16) : wX c t ∈ lw_g := by
  rw [← wIs_T h]
  have e := (wIs_eq h).2
  exact wT_g (wIs_eq h).1 (by rw [e]; exact h2) (by rw [e]; exact h3) (by rw [e]; exact h4)
theorem lay_good (C : String) (T : u_T) (k : Nat) : goodWord (u_lay C T k) = true := by
  unfold u_lay
  split <;> rfl
theorem inC_g (ci : Nat) (h : ci < 13) : ∀ w ∈ u_ws (cq ci).1 (cq ci).2.1 (cq ci).2.2, w ∈ lw_g := by
  intro w hw
  refine List.mem_filter.mpr ⟨inC ci h w hw, ?_⟩
  obtain ⟨k, -, rfl⟩ := List.mem_map.mp hw
  exact lay_good _ _ _
/-! the local variables -/
def isU (v : Value) : Bool := match v with
  | .retAddr _ => true
  | _ => false
def LR (ad : Nat → Nat) (am : List Value) (ls : Array Slot) : Prop := ls.size = am.length ∧ lv_wf ls ∧ ∀ (i : Nat) (v : Value), am[i]? = some v → isU v = false → ls[i]? = some (.val (cv ad v))
theorem gl_some : ∀ (am : List Value) (i : Nat) (v : Value), gl am i = v → isU v = false → am[i]? = some v := by
  intro am
  induction am with
  | nil => intro i v h hv; subst h; cases hv
  | cons a l ih =>
    intro i v h hv
    cases i with
    | zero => subst h; rfl
    | succ i => exact ih i v h hv
theorem LR.get {ad : Nat → Nat} {am : List Value} {ls : Array Slot} (h : LR ad am ls) {i : Nat} {v : Value} (hg : gl am i = v) (hv : isU v = false) : ls[i]? = some (.val (cv ad v)) := h.2.2 i v (gl_some am i v hg hv) hv
def al (ad : Nat → Nat) : Nat → List Value → List (Nat × Value)
  | _, [] => []
  | i, v :: r => bif isU v then al ad (i + 1) r else (i, cv ad v) :: al ad (i + 1) r
theorem al_mem {ad : Nat → Nat} : ∀ (am : List Value) (k j : Nat) (w : Value), am[j]? = some w → isU w = false → (k + j, cv ad w) ∈ al ad k am := by
  intro am
  induction am with
  | nil => intro k j w h; simp at h
  | cons a l ih =>
    intro k j w h hw
    cases j with
    | zero =>
      simp only [List.getElem?_cons_zero, Option.some.injEq] at h
      subst h
      unfold al
      rw [hw]
      exact List.mem_cons_self
    | succ j =>
      simp only [List.getElem?_cons_succ] at h
      have h1 := ih (k + 1) j w h hw
      rw [show k + 1 + j = k + (j + 1) by omega] at h1
      unfold al
      cases isU a
      · exact List.mem_cons_of_mem _ h1
      · exact h1
theorem al_of {ad : Nat → Nat} : ∀ (am : List Value) (k : Nat) (q : Nat × Value), q ∈ al ad k am → ∃ (j : Nat) (v : Value), q = (k + j, cv ad v) ∧ am[j]? = some v ∧ isU v = false := by
  intro am
  induction am with
  | nil => intro k q h; cases h
  | cons a l ih =>
    intro k q h
    unfold al at h
    cases hu : isU a with
    | true =>
      rw [hu] at h
      obtain ⟨j, v, e, h1, h2⟩ := ih (k + 1) q h
      exact ⟨j + 1, v, by rw [e, show k + 1 + j = k + (j + 1) by omega], h1, h2⟩
    | false =>
      rw [hu] at h
      rcases List.mem_cons.mp h with h | h
      · exact ⟨0, a, h, rfl, hu⟩
      · obtain ⟨j, v, e, h1, h2⟩ := ih (k + 1) q h
        exact ⟨j + 1, v, by rw [e, show k + 1 + j = k + (j + 1) by omega], h1, h2⟩
theorem LR.has {ad : Nat → Nat} {am : List Value} {ls : Array Slot} (h : LR ad am ls) : lv_has ls am.length (al ad 0 am) := by
  refine ⟨h.1, h.2.1, fun q hq => ?_⟩
  obtain ⟨j, v, e, h1, h2⟩ := al_of am 0 q hq
  subst e
  rw [Nat.zero_add]
  exact h.2.2 j v h1 h2
theorem kl_u {v : Value} (h : isU (kl v) = false) : kl v = v ∧ v.category ≠ 2 := by
  cases v <;> first | exact ⟨rfl, by simp [Value.category]⟩ | cases h
theorem cv_cat (ad : Nat → Nat) (v : Value) : (cv ad v).category = v.category := by cases v <;> rfl
theorem st1_get : ∀ (am : List Value) (i : Nat) (v : Value) (j : Nat) (w : Value), (st1 am i v)[j]? = some w → (j = i ∧ w = v) ∨ (j + 1 = i ∧ ∃ u, am[j]? = some u ∧ w = kl u) ∨ (j ≠ i ∧ j + 1 ≠ i ∧ am[j]? = some w) := by
  intro am
  induction am with
  | nil => intro i v j w h; cases i <;> simp [st1] at h
  | cons a l ih =>
    intro i v j w h
    match i, j with
    | 0, 0 => simp [st1] at h; exact Or.inl ⟨rfl, h.symm⟩
    | 0, j + 1 => simp [st1] at h; exact Or.inr (Or.inr ⟨by omega, by omega, by simpa using h⟩)
    | 1, 0 => simp [st1] at h; exact Or.inr (Or.inl ⟨rfl, a, rfl, h.symm⟩)
    | 1, j + 1 =>
      simp only [st1, List.getElem?_cons_succ] at h
      rcases ih 0 v j w h with ⟨h1, h2⟩ | ⟨h1, h2⟩ | ⟨h1, h2, h3⟩
      · exact Or.inl ⟨by omega, h2⟩
      · omega
      · exact Or.inr (Or.inr ⟨by omega, by omega, h3⟩)
    | i + 2, 0 => simp [st1] at h; exact Or.inr (Or.inr ⟨by omega, by omega, by simp [h]⟩)
    | i + 2, j + 1 =>
      simp only [st1, List.getElem?_cons_succ] at h
      rcases ih (i + 1) v j w h with ⟨h1, h2⟩ | ⟨h1, h2⟩ | ⟨h1, h2, h3⟩
      · exact Or.inl ⟨by omega, h2⟩
      · exact Or.inr (Or.inl ⟨by omega, h2⟩)
      · exact Or.inr (Or.inr ⟨by omega, by omega, h3⟩)
theorem st2_get : ∀ (am : List Value) (i : Nat) (v : Value) (j : Nat) (w : Value), (st2 am i v)[j]? = some w → (j = i ∧ w = v) ∨ (j = i + 1 ∧ w = U) ∨ (j + 1 = i ∧ ∃ u, am[j]? = some u ∧ w = kl u) ∨ (j ≠ i ∧ j ≠ i + 1 ∧ j + 1 ≠ i ∧ am[j]? = some w) := by
  intro am
  induction am with
  | nil => intro i v j w h; cases i <;> simp [st2] at h
  | cons a l ih =>
    intro i v j w h
    match i, j with
    | 0, 0 => simp [st2] at h; exact Or.inl ⟨rfl, h.symm⟩
    | 0, j + 1 =>
      simp only [st2, List.getElem?_cons_succ] at h
      rcases st1_get l 0 U j w h with ⟨h1, h2⟩ | ⟨h1, h2⟩ | ⟨h1, h2, h3⟩
      · exact Or.inr (Or.inl ⟨by omega, h2⟩)
      · omega
      · exact Or.inr (Or.inr (Or.inr ⟨by omega, by omega, by omega, h3⟩))
    | 1, 0 => simp [st2] at h; exact Or.inr (Or.inr (Or.inl ⟨rfl, a, rfl, h.symm⟩))
    | 1, j + 1 =>
      simp only [st2, List.getElem?_cons_succ] at h
      rcases ih 0 v j w h with ⟨h1, h2⟩ | ⟨h1, h2⟩ | ⟨h1, h2⟩ | ⟨h1, h2, h3, h4⟩
      · exact Or.inl ⟨by omega, h2⟩
      · exact Or.inr (Or.inl ⟨by omega, h2⟩)
      · omega
      · exact Or.inr (Or.inr (Or.inr ⟨by omega, by omega, by omega, h4⟩))
    | i + 2, 0 => simp [st2] at h; exact Or.inr (Or.inr (Or.inr ⟨by omega, by omega, by omega, by simp [h]⟩))
    | i + 2, j + 1 =>
      simp only [st2, List.getElem?_cons_succ] at h
      rcases ih (i + 1) v j w h with ⟨h1, h2⟩ | ⟨h1, h2⟩ | ⟨h1, h2⟩ | ⟨h1, h2, h3, h4⟩
      · exact Or.inl ⟨by omega, h2⟩
      · exact Or.inr (Or.inl ⟨by omega, h2⟩)
      · exact Or.inr (Or.inr (Or.inl ⟨by omega, h2⟩))
      · exact Or.inr (Or.inr (Or.inr ⟨by omega, by omega, by omega, h4⟩))
theorem st1_len : ∀ (am : List Value) (i : Nat) (v : Value), (st1 am i v).length = am.length := by
  intro am
  induction am with
  | nil => intro i v; cases i <;> rfl
  | cons a l ih =>
    intro i v
    match i with
    | 0 => rfl
    | 1 => exact congrArg (· + 1) (ih 0 v)
    | i + 2 => exact congrArg (· + 1) (ih (i + 1) v)
theorem st2_len : ∀ (am : List Value) (i : Nat) (v : Value), (st2 am i v).length = am.length := by
  intro am
  induction am with
  | nil => intro i v; cases i <;> rfl
  | cons a l ih =>
    intro i v
    match i with
    | 0 => exact congrArg (· + 1) (st1_len l 0 U)
    | 1 => exact congrArg (· + 1) (ih 0 v)
    | i + 2 => exact congrArg (· + 1) (ih (i + 1) v)
theorem LR.set1 {ad : Nat → Nat} {am : List Value} {ls' : Array Slot} {i : Nat} {v : Value} (h : lv_has ls' am.length ((i, cv ad v) :: (al ad 0 am).filter (fun q => !(q.1 == i) && !(q.1 + 1 == i && q.2.category == 2)))) : LR ad (st1 am i v) ls' := by
  refine ⟨by rw [st1_len]; exact h.1, h.2.1, fun j w hj hw => ?_⟩
  rcases st1_get am i v j w hj with ⟨rfl, rfl⟩ | ⟨h1, u, h2, rfl⟩ | ⟨h1, h2, h3⟩
  · exact h.2.2 (j, cv ad w) List.mem_cons_self
  · obtain ⟨e, hc⟩ := kl_u hw
    rw [e] at hw ⊢
    refine h.2.2 (j, cv ad u) (List.mem_cons_of_mem _ (List.mem_filter.mpr ⟨by simpa using al_mem am 0 j u h2 hw, ?_⟩))
    have : (j == i) = false := by simp; omega
    simp [this, cv_cat, hc]
  · refine h.2.2 (j, cv ad w) (List.mem_cons_of_mem _ (List.mem_filter.mpr ⟨by simpa using al_mem am 0 j w h3 hw, ?_⟩))
    simp [h1, h2]
theorem LR.set2 {ad : Nat → Nat} {am : List Value} {ls' : Array Slot} {i : Nat} {v : Value} (h : lv_has ls' am.length ((i, cv ad v) :: (al ad 0 am).filter (fun q => !(q.1 == i) && (!(q.1 == i + 1) && !(q.1 + 1 == i && q.2.category == 2))))) : LR ad (st2 am i v) ls' := by
  refine ⟨by rw [st2_len]; exact h.1, h.2.1, fun j w hj hw => ?_⟩
  rcases st2_get am i v j w hj with ⟨rfl, rfl⟩ | ⟨-, rfl⟩ | ⟨h1, u, h2, rfl⟩ | ⟨h1, h2, h3, h4⟩
  · exact h.2.2 (j, cv ad w) List.mem_cons_self
  · cases hw
  · obtain ⟨e, hc⟩ := kl_u hw
    rw [e] at hw ⊢
    refine h.2.2 (j, cv ad u) (List.mem_cons_of_mem _ (List.mem_filter.mpr ⟨by simpa using al_mem am 0 j u h2 hw, ?_⟩))
    have h5 : (j == i) = false := by simp; omega
    have h6 : (j == i + 1) = false := by simp; omega
    simp [h5, h6, cv_cat, hc]
  · refine h.2.2 (j, cv ad w) (List.mem_cons_of_mem _ (List.mem_filter.mpr ⟨by simpa using al_mem am 0 j w h4 hw, ?_⟩))
    simp [h1, h2, h3]
theorem argL_len (ad : Nat → Nat) (vs : List Value) : (lg_sl (vs.map (cv ad))).length = (argL vs).length := by
  induction vs with
  | nil => rfl
  | cons v l ih =>
    have e : lg_sl ((v :: l).map (cv ad)) = (if v.category = 2 then [.val (cv ad v), .second] else [.val (cv ad v)]) ++ lg_sl (l.map (cv ad)) := by
      simp [lg_sl, cv_cat]
    rw [e, List.length_append, ih]
    cases v <;> simp [argL, Value.category] <;> omega
theorem pad_len : ∀ (l : List Value) (n : Nat), l.length ≤ n → (pad l n).length = n := by
  intro l
  induction l with
  | nil => intro n _; induction n with
    | zero => rfl
    | succ n ih => simp only [pad, List.length_cons]; rw [ih (Nat.zero_le _)]
  | cons a l ih =>
    intro n h
    cases n with
    | zero => simp at h
    | succ n => simp only [pad, List.length_cons]; rw [ih n (by simpa using h)]
theorem pad_get : ∀ (l : List Value) (n j : Nat) (w : Value), (pad l n)[j]? = some w → isU w = false → l[j]? = some w := by
  intro l
  induction l with
  | nil =>
    intro n
    induction n with
    | zero => intro j w h; simp [pad] at h
    | succ n ih =>
      intro j w h hw
      cases j with
      | zero => simp [pad] at h; subst h; cases hw
      | succ j => simp only [pad, List.getElem?_cons_succ] at h; have := ih j w h hw; simp at this
  | cons a l ih =>
    intro n j w h hw
    cases n with
    | zero => exact h
    | succ n =>
      cases j with
      | zero => exact h
      | succ j => simp only [pad, List.getElem?_cons_succ] at h ⊢; exact ih n j w h hw
theorem argL_mem (ad : Nat → Nat) : ∀ (vs : List Value) (k j : Nat) (w : Value), (argL vs)[j]? = some w → isU w = false → (k + j, cv ad w) ∈ lv_args k (vs.map (cv ad)) := by
  intro vs
  induction vs with
  | nil => intro k j w h; simp [argL] at h
  | cons v l ih =>
    intro k j w h hw
    have two : v.category = 2 → argL (v :: l) = v :: U :: argL l := by cases v <;> intro q <;> first | rfl | cases q
    have one : ¬ v.category = 2 → argL (v :: l) = v :: argL l := by cases v <;> intro q <;> first | rfl | exact absurd rfl q
    simp only [List.map_cons, lv_args, cv_cat]
    by_cases hc : v.category = 2
    · rw [two hc] at h
      rw [if_pos hc]
      match j with
      | 0 => simp at h; subst h; exact List.mem_cons_self
      | 1 => simp at h; subst h; cases hw
      | j + 2 =>
        simp only [List.getElem?_cons_succ] at h
        have := ih (k + 2) j w h hw
        rw [show k + 2 + j = k + (j + 2) by omega] at this
        exact List.mem_cons_of_mem _ this
    · rw [one hc] at h
      rw [if_neg hc]
      match j with
      | 0 => simp at h; subst h; exact List.mem_cons_self
      | j + 1 =>
        simp only [List.getElem?_cons_succ] at h
        have := ih (k + 1) j w h hw
        rw [show k + 1 + j = k + (j + 1) by omega] at this
        exact List.mem_cons_of_mem _ this
theorem LR.entry {ad : Nat → Nat} {mu : Nat} {vs : List Value} {ls : Array Slot} (hlen : (argL vs).length ≤ mL mu) (h : lv_has ls (mL mu) (lv_args 0 (vs.map (cv ad)))) : LR ad (lcl mu vs) ls := by
  refine ⟨by rw [lcl, pad_len _ _ hlen]; exact h.1, h.2.1, fun j w hj hw => ?_⟩
  have h1 := argL_mem ad vs 0 j w (pad_get _ _ _ _ hj hw) hw
  rw [Nat.zero_add] at h1
  exact h.2.2 _ h1
theorem ix_in {i : Int32} {n : Nat} (h : ix i < n) (hn : n ≤ 2 ^ 31) : vp_in i n ∧ i.toNatClampNeg = ix i := by
  have h1 : i.toInt = (ix i : Int) := by
    have : i.toInt = i.toBitVec.toInt := rfl
    rw [this, BitVec.toInt_eq_toNat_of_lt (by unfold ix at h; omega)]
    rfl
  refine ⟨vp_in_iff.mpr ⟨by omega, by omega⟩, ?_⟩
  show i.toInt.toNat = ix i
  rw [h1]
  rfl
