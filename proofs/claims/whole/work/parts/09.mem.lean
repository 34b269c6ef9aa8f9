/-! THE MEMORY UNDER STORES -/
theorem kd_lo : ∀ r, r < 4 → 25 ≤ kd r := ok_s (ok_s (ok_s (ok_s ok_z (by decide +kernel)) (by decide +kernel)) (by decide +kernel)) (by decide +kernel)
theorem kd_4 {r : Nat} (h : kd r < 25) : 4 ≤ r := by
  rcases Nat.lt_or_ge r 4 with q | q
  · exact absurd (kd_lo r q) (by omega)
  · exact q
theorem wl_get {cy : Nat → ClassId} {ad : Nat → Nat} {n : Nat} {M : Mm} {r : Nat} (h4 : 4 ≤ r) (hr : r < n) : (wl cy ad n M)[r - 4]? = some (ad r, en cy ad M r) := by
  unfold wl
  rw [List.getElem?_map, List.getElem?_range (by omega), Option.map_some, show r - 4 + 4 = r by omega]
theorem wl_len (cy : Nat → ClassId) (ad : Nat → Nat) (n : Nat) (M : Mm) : (wl cy ad n M).length = n - 4 := by simp [wl]
theorem wl_set {cy : Nat → ClassId} {ad : Nat → Nat} {n : Nat} {M M' : Mm} {r : Nat} {e : va_E} (h4 : 4 ≤ r) (he : en cy ad M' r = e) (ho : ∀ r', r' ≠ r → en cy ad M' r' = en cy ad M r') : (wl cy ad n M).set (r - 4) (ad r, e) = wl cy ad n M' := by
  apply List.ext_getElem?
  intro j
  by_cases hj : j < n - 4
  · by_cases e1 : r - 4 = j
    · subst e1
      rw [List.getElem?_set_self (by rw [wl_len]; exact hj)]
      unfold wl
      rw [List.getElem?_map, List.getElem?_range hj, Option.map_some, show r - 4 + 4 = r by omega, he]
    · rw [List.getElem?_set_ne e1]
      unfold wl
      rw [List.getElem?_map, List.getElem?_map, List.getElem?_range hj, Option.map_some, Option.map_some, ho (j + 4) (by omega)]
  · rw [List.getElem?_eq_none (by rw [List.length_set, wl_len]; omega), List.getElem?_eq_none (by rw [wl_len]; omega)]
theorem wl_push {cy : Nat → ClassId} {ad : Nat → Nat} {n : Nat} {M M' : Mm} {e : va_E} (h4 : 4 ≤ n) (he : en cy ad M' n = e) (ho : ∀ r', r' ≠ n → en cy ad M' r' = en cy ad M r') : wl cy ad n M ++ [(ad n, e)] = wl cy ad (n + 1) M' := by
  apply List.ext_getElem?
  intro j
  rcases Nat.lt_trichotomy j (n - 4) with hj | hj | hj
  · rw [List.getElem?_append_left (by rw [wl_len]; exact hj)]
    unfold wl
    rw [List.getElem?_map, List.getElem?_map, List.getElem?_range hj, List.getElem?_range (by omega), Option.map_some, Option.map_some, ho (j + 4) (by omega)]
  · subst hj
    rw [List.getElem?_append_right (by rw [wl_len]; exact Nat.le_refl _), wl_len, Nat.sub_self]
    unfold wl
    rw [List.getElem?_map, List.getElem?_range (by omega), Option.map_some, show n - 4 + 4 = n by omega, he]
    rfl
  · rw [List.getElem?_eq_none (by rw [List.length_append, wl_len]; simp; omega), List.getElem?_eq_none (by rw [wl_len]; omega)]
theorem gI_ne {M : M2} {r k r' : Nat} {v : Int32} (h : r' ≠ r) : gI (sI M r k v) r' = gI M r' := by
  funext j
  simp [gI, sI, h]
theorem gI_eq {M : M2} {r k : Nat} {v : Int32} : gI (sI M r k v) r = upd (gI M r) k v := by
  funext j
  simp [gI, sI, upd]
theorem gL_sI {M : M2} {r k : Nat} {v : Int32} : gL (sI M r k v) = gL M := rfl
theorem gI_sL {M : M2} {r k : Nat} {v : Int64} : gI (sL M r k v) = gI M := rfl
theorem gL_ne {M : M2} {r k r' : Nat} {v : Int64} (h : r' ≠ r) : gL (sL M r k v) r' = gL M r' := by
  funext j
  simp [gL, sL, h]
theorem gL_eq {M : M2} {r k : Nat} {v : Int64} : gL (sL M r k v) r = vp_updL (gL M r) k v := by
  funext j
  simp [gL, sL, vp_updL]
theorem uR_ne {R : Rf} {r k r' : Nat} {v : Option Nat} (h : r' ≠ r) : uR R r k v r' = R r' := by
  funext j
  simp [uR, h]
/-- a cell's picture goes by its own rows alone -/
theorem en_of {cy : Nat → ClassId} {ad : Nat → Nat} {M M' : Mm} {r : Nat} (h1 : M'.1 r = M.1 r) (h2 : gI M'.2 r = gI M.2 r) (h3 : gL M'.2 r = gL M.2 r) : en cy ad M' r = en cy ad M r := by
  have hf : fv ad M' r = fv ad M r := by
    funext k
    unfold fv
    rw [h1, h2]
  unfold en
  rw [hf, h1, h2, h3]
theorem en_obj {cy : Nat → ClassId} {ad : Nat → Nat} {M : Mm} {r b : Nat} (h : kd r = b) (hb : b < 13) : en cy ad M r = .inr (b, (List.range (cq b).2.2).map (fv ad M r)) := by
  subst h
  unfold en
  rw [show Nat.blt (kd r) 13 = true from Nat.ble_eq_true_of_le hb]
  rfl
theorem en_i {cy : Nat → ClassId} {ad : Nat → Nat} {M : Mm} {r b : Nat} (h : kd r = b) (hb : b = 20 ∨ b = 21 ∨ b = 22) : en cy ad M r = .inl (cy b, ln r, .inl (gI M.2 r)) := by
  unfold en
  rcases hb with rfl | rfl | rfl <;> rw [h] <;> rfl
theorem en_l {cy : Nat → ClassId} {ad : Nat → Nat} {M : Mm} {r : Nat} (h : kd r = 23) : en cy ad M r = .inl (cy 23, ln r, .inr (.inl (gL M.2 r))) := by
  unfold en
  rw [h]
  rfl
theorem en_q {cy : Nat → ClassId} {ad : Nat → Nat} {M : Mm} {r : Nat} (h : kd r = 24) : en cy ad M r = .inl (cy 24, ln r, .inr (.inr (.inr (.inr (fun j => (M.1 r j).map ad))))) := by
  unfold en
  rw [h]
  rfl
theorem Bs.of {ad : Nat → Nat} {B : Nat} {M M' : Mm} {s : State} {H : Heap} (h : ∀ r, r < 4 → gI M'.2 r = gI M.2 r) (hB : Bs ad B M s H) : Bs ad B M' s H := by
  obtain ⟨h1, h2, h3, h5⟩ := hB
  have h4 := h 3 (by omega)
  refine ⟨fun r hr => by rw [h r (by omega)]; exact h1 r hr, ?_, h3, by rw [h4]; exact h5⟩
  rw [h4]
  exact h2
theorem range_set {α : Type} (f : Nat → α) (N k : Nat) (v : α) (g : Nat → α) (hk : g k = v) (ho : ∀ j, j ≠ k → g j = f j) : ((List.range N).map f).set k v = (List.range N).map g := by
  apply List.ext_getElem?
  intro j
  by_cases hj : j < N
  · by_cases e1 : k = j
    · subst e1
      rw [List.getElem?_set_self (by simpa using hj), List.getElem?_map, List.getElem?_range hj, Option.map_some, hk]
    · rw [List.getElem?_set_ne e1, List.getElem?_map, List.getElem?_map, List.getElem?_range hj, Option.map_some, Option.map_some, ho j (by omega)]
  · rw [List.getElem?_eq_none (by simpa using hj), List.getElem?_eq_none (by simpa using hj)]
theorem fv_i {ad : Nat → Nat} {M : Mm} {r b k : Nat} {x : Int32} (hb : kd r = b) (hf : Nat.beq (fk b k) 2 = false) (N : Nat) : ((List.range N).map (fv ad M r)).set k (.int x) = (List.range N).map (fv ad (M.1, sI M.2 r k x) r) := by
  subst hb
  refine range_set _ _ _ _ _ ?_ (fun j hj => ?_)
  · unfold fv
    rw [hf, gI_eq]
    simp [upd]
  · unfold fv
    simp [gI_eq, upd, hj]
theorem fv_r {ad : Nat → Nat} {M : Mm} {r b k x : Nat} (hb : kd r = b) (hf : Nat.beq (fk b k) 2 = true) (N : Nat) : ((List.range N).map (fv ad M r)).set k (.ref (ad x)) = (List.range N).map (fv ad (uR M.1 r k (some x), M.2) r) := by
  subst hb
  refine range_set _ _ _ _ _ ?_ (fun j hj => ?_)
  · unfold fv
    rw [hf]
    simp [uR, va_rf]
  · unfold fv
    simp [uR, hj]
/-! TAKING THE STEP'S WORDS APART -/
theorem ok3 {x y z : Bool} (h : (x && (y && z)) = true) : x = true ∧ y = true ∧ z = true := by
  simp only [Bool.and_eq_true] at h
  exact h
theorem ok2 {x y : Bool} (h : (x && y) = true) : x = true ∧ y = true := by
  simp only [Bool.and_eq_true] at h
  exact h
theorem bK_e {b : Bool} {P : Prop} (h : bK b P) : b = true ∧ P := by
  cases b
  · exact h.elim
  · exact ⟨rfl, h⟩
theorem iK_e {i : Int32} {n : Nat} {P : Prop} (h : iK i n P) : ix i < n ∧ P := by
  unfold iK at h
  cases hb : Nat.blt (ix i) n with
  | true => rw [hb] at h; exact ⟨Nat.le_of_ble_eq_true hb, h⟩
  | false => rw [hb] at h; exact h
theorem nzK_e {y : Int32} {P : Prop} (h : nzK y P) : ¬ y = 0 ∧ P := by
  unfold nzK at h
  cases hb : Nat.blt 0 (ix y) with
  | true =>
    rw [hb] at h
    refine ⟨fun q => ?_, h⟩
    subst q
    exact absurd hb (by decide)
  | false => rw [hb] at h; exact h
theorem oK_e {n r c : Nat} {P : Prop} (h : oK n r c P) : r < n ∧ kd r = c ∧ P := by
  unfold oK at h
  cases hb : (Nat.blt r n && Nat.beq (kd r) c) with
  | true =>
    rw [hb] at h
    obtain ⟨h1, h2⟩ := ok2 hb
    exact ⟨Nat.le_of_ble_eq_true h1, Nat.eq_of_beq_eq_true h2, h⟩
  | false => rw [hb] at h; exact h.elim
theorem rK_e {x : Option Nat} {f : Nat → Prop} (h : rK x f) : ∃ a, x = some a ∧ f a := by
  cases x
  · exact h.elim
  · exact ⟨_, rfl, h⟩
theorem pI_e {st : List Value} {f : Int32 → List Value → Prop} (h : pI st f) : ∃ x r, st = .int x :: r ∧ f x r := by
  unfold pI at h
  split at h
  · exact ⟨_, _, rfl, h⟩
  · exact h.elim
theorem pII_e {st : List Value} {f : Int32 → Int32 → List Value → Prop} (h : pII st f) : ∃ x y r, st = .int y :: .int x :: r ∧ f x y r := by
  unfold pII at h
  split at h
  · exact ⟨_, _, _, rfl, h⟩
  · exact h.elim
theorem pL_e {st : List Value} {f : Int64 → List Value → Prop} (h : pL st f) : ∃ x r, st = .long x :: r ∧ f x r := by
  unfold pL at h
  split at h
  · exact ⟨_, _, rfl, h⟩
  · exact h.elim
theorem pLL_e {st : List Value} {f : Int64 → Int64 → List Value → Prop} (h : pLL st f) : ∃ x y r, st = .long y :: .long x :: r ∧ f x y r := by
  unfold pLL at h
  split at h
  · exact ⟨_, _, _, rfl, h⟩
  · exact h.elim
theorem pLI_e {st : List Value} {f : Int64 → Int32 → List Value → Prop} (h : pLI st f) : ∃ x y r, st = .int y :: .long x :: r ∧ f x y r := by
  unfold pLI at h
  split at h
  · exact ⟨_, _, _, rfl, h⟩
  · exact h.elim
theorem pR_e {st : List Value} {f : Nat → List Value → Prop} (h : pR st f) : ∃ (a : Nat) (r : List Value), st = .ref a :: r ∧ f a r := by
  unfold pR at h
  split at h
  · exact ⟨_, _, rfl, h⟩
  · exact h.elim
theorem pA_e {st : List Value} {g : List Value → Prop} {f : Nat → List Value → Prop} (h : pA st g f) : (∃ r, st = .null :: r ∧ g r) ∨ ∃ (a : Nat) (r : List Value), st = .ref a :: r ∧ f a r := by
  unfold pA at h
  split at h
  · exact Or.inr ⟨_, _, rfl, h⟩
  · exact Or.inl ⟨_, rfl, h⟩
  · exact h.elim
theorem pIR_e {st : List Value} {f : Int32 → Nat → List Value → Prop} (h : pIR st f) : ∃ (i : Int32) (a : Nat) (r : List Value), st = .int i :: .ref a :: r ∧ f i a r := by
  unfold pIR at h
  split at h
  · exact ⟨_, _, _, rfl, h⟩
  · exact h.elim
theorem pRR_e {st : List Value} {f : Nat → Nat → List Value → Prop} (h : pRR st f) : ∃ (v a : Nat) (r : List Value), st = .ref v :: .ref a :: r ∧ f v a r := by
  unfold pRR at h
  split at h
  · exact ⟨_, _, _, rfl, h⟩
  · exact h.elim
theorem pIIR_e {st : List Value} {f : Int32 → Int32 → Nat → List Value → Prop} (h : pIIR st f) : ∃ (x i : Int32) (a : Nat) (r : List Value), st = .int x :: .int i :: .ref a :: r ∧ f x i a r := by
  unfold pIIR at h
  split at h
  · exact ⟨_, _, _, _, rfl, h⟩
  · exact h.elim
theorem pLIR_e {st : List Value} {f : Int64 → Int32 → Nat → List Value → Prop} (h : pLIR st f) : ∃ (x : Int64) (i : Int32) (a : Nat) (r : List Value), st = .long x :: .int i :: .ref a :: r ∧ f x i a r := by
  unfold pLIR at h
  split at h
  · exact ⟨_, _, _, _, rfl, h⟩
  · exact h.elim
theorem pRIR_e {st : List Value} {f : Nat → Int32 → Nat → List Value → Prop} (h : pRIR st f) : ∃ (x : Nat) (i : Int32) (a : Nat) (r : List Value), st = .ref x :: .int i :: .ref a :: r ∧ f x i a r := by
  unfold pRIR at h
  split at h
  · exact ⟨_, _, _, _, rfl, h⟩
  · exact h.elim
theorem pCpy_e {st : List Value} {f : Int32 → Int32 → Nat → Int32 → Nat → List Value → Prop} (h : pCpy st f) : ∃ (n dp : Int32) (d : Nat) (sp : Int32) (s : Nat) (r : List Value), st = .int n :: .int dp :: .ref d :: .int sp :: .ref s :: r ∧ f n dp d sp s r := by
  unfold pCpy at h
  split at h
  · exact ⟨_, _, _, _, _, _, rfl, h⟩
  · exact h.elim
theorem vI_e {v : Value} {f : Int32 → Prop} (h : vI v f) : ∃ x, v = .int x ∧ f x := by
  cases v <;> first | exact ⟨_, rfl, h⟩ | exact h.elim
theorem vL_e {v : Value} {f : Int64 → Prop} (h : vL v f) : ∃ x, v = .long x ∧ f x := by
  cases v <;> first | exact ⟨_, rfl, h⟩ | exact h.elim
theorem vA_e {v : Value} {g : Prop} {f : Nat → Prop} (h : vA v g f) : (v = .null ∧ g) ∨ ∃ x, v = .ref x ∧ f x := by
  cases v <;> first | exact Or.inr ⟨_, rfl, h⟩ | exact Or.inl ⟨rfl, h⟩ | exact h.elim
theorem pDup_e {st : List Value} {f : Value → List Value → Prop} (h : pDup st f) : ∃ x r, st = x :: r ∧ x.category = 1 ∧ f x r := by
  unfold pDup at h
  split at h
  · exact ⟨_, _, rfl, rfl, h⟩
  · exact ⟨_, _, rfl, rfl, h⟩
  · exact h.elim
theorem pDup2_e {st : List Value} {g : Int64 → List Value → Prop} {f : Value → Value → List Value → Prop} (h : pDup2 st g f) : (∃ x r, st = .long x :: r ∧ g x r) ∨ ∃ x y r, st = x :: y :: r ∧ x.category = 1 ∧ y.category = 1 ∧ f x y r := by
  unfold pDup2 at h
  split at h
  · exact Or.inl ⟨_, _, rfl, h⟩
  · exact Or.inr ⟨_, _, _, rfl, rfl, rfl, h⟩
  · exact Or.inr ⟨_, _, _, rfl, rfl, rfl, h⟩
  · exact h.elim
theorem okT_e {pc : Nat} {x : Int32} {f : Nat → Prop} {d : Nat} : ∀ (os : List Int) (cs : List (Int32 × Nat)) (lo : Int), okT pc lo os cs = true → swK x f d cs → (∃ (j : Nat) (off : Int) (t : Nat), os[j]? = some off ∧ (pc : Int) + off = (t : Int) ∧ x.toInt = lo + j ∧ f t) ∨ ((x.toInt < lo ∨ lo + os.length ≤ x.toInt) ∧ f d) := by
  intro os
  induction os with
  | nil =>
    intro cs lo h hs
    cases cs with
    | nil =>
      refine Or.inr ⟨?_, hs⟩
      simp only [List.length_nil]
      omega
    | cons a l => cases h
  | cons o os ih =>
    intro cs lo h hs
    cases cs with
    | nil => cases h
    | cons a l =>
      obtain ⟨k, t⟩ := a
      obtain ⟨h1, h2, h3⟩ := ok3 h
      have h1 := of_decide_eq_true h1
      have h2 : (pc : Int) + o = (t : Int) := of_decide_eq_true h2
      by_cases hx : x = k
      · exact Or.inl ⟨0, o, t, rfl, h2, by rw [hx, h1]; simp, hs.1 hx⟩
      · have hne : x.toInt ≠ lo := fun q => hx (Int32.toInt_inj.mp (by rw [q, h1]))
        rcases ih l (lo + 1) h3 (hs.2 hx) with ⟨j, off, t', e1, e2, e3, e4⟩ | ⟨e1, e2⟩
        · exact Or.inl ⟨j + 1, off, t', e1, e2, by rw [e3]; omega, e4⟩
        · refine Or.inr ⟨?_, e2⟩
          simp only [List.length_cons]
          omega
theorem okL_e {pc : Nat} {x : Int32} {f : Nat → Prop} {d : Nat} {df : Int} (hd : (pc : Int) + df = (d : Int)) : ∀ (os : List (Int × Int)) (cs : List (Int32 × Nat)), okL pc os cs = true → swK x f d cs → ∃ (off : Int) (t : Nat), Op.lookupswitch.offset os df x.toInt = off ∧ (pc : Int) + off = (t : Int) ∧ f t := by
  intro os
  induction os with
  | nil =>
    intro cs h hs
    cases cs with
    | nil => exact ⟨_, d, rfl, hd, hs⟩
    | cons a l => cases h
  | cons o os ih =>
    intro cs h hs
    cases cs with
    | nil => cases h
    | cons a l =>
      obtain ⟨k, t⟩ := a
      obtain ⟨m, o⟩ := o
      obtain ⟨h1, h2, h3⟩ := ok3 h
      have h1 := of_decide_eq_true h1
      have h2 : (pc : Int) + o = (t : Int) := of_decide_eq_true h2
      by_cases hx : x = k
      · exact ⟨o, t, by rw [Op.lookupswitch.offset_cons, if_pos]; first | (rw [hx, h1]) | (rw [hx]; exact h1.symm) | (rw [hx]; exact h1), h2, hs.1 hx⟩
      · obtain ⟨off, t', e1, e2, e3⟩ := ih l h3 (hs.2 hx)
        exact ⟨off, t', by rw [lv_osw hx h1]; exact e1, e2, e3⟩
