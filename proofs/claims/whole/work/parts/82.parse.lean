/-! THE LAW'S TEXT, READ -/
abbrev LC : Type := List Int32
abbrev PR : Type := Bool × Nat × LC
abbrev PF : Type := Nat → LC → PR
def bH (tp : Nat → Int32) (n p : Nat) : Int32 := bif Nat.blt p n then tp p else -1
def isDg (c : Int32) : Bool := decide (48 ≤ c) && decide (c ≤ 57)
def adS (c : Int32) (s : PR) : PR := (s.1, s.2.1, s.2.2 ++ [c])
def loopP (B : Nat → Int32) (tk : Int32 → Bool) (X : PF) : Nat → PR → PR
  | 0, r => r
  | m + 1, r => bif r.1 && tk (B r.2.1) then loopP B tk X m (adS (B r.2.1) (X (r.2.1 + 1) r.2.2)) else r
def binL (B : Nat → Int32) (tk : Int32 → Bool) (m : Nat) (X : PF) : PF := fun p cd => loopP B tk X m (X p cd)
def tk1 (a : Int32) (c : Int32) : Bool := decide (c = a)
def tk3 (a e i : Int32) (c : Int32) : Bool := decide (c = a) || (decide (c = e) || decide (c = i))
def prP (B : Nat → Int32) (X : PF) : PF := binL B (tk3 42 47 37) 120 X
def suP (B : Nat → Int32) (X : PF) : PF := binL B (tk3 43 45 45) 120 (prP B X)
def coP (B : Nat → Int32) (X : PF) : PF := binL B (tk3 60 61 62) 1 (suP B X)
def boP (B : Nat → Int32) (X : PF) : PF := binL B (tk1 38) 120 (coP B X)
def eiP (B : Nat → Int32) (X : PF) : PF := binL B (tk1 124) 120 (boP B X)
def nbP (B : Nat → Int32) : Nat → Nat → Int32 → Nat × Int32
  | 0, p, v => (p, v)
  | m + 1, p, v => bif isDg (B p) then nbP B m (p + 1) (v * 10 + B p - 48) else (p, v)
def lfP (B : Nat → Int32) (Y : PF) : PF := fun p cd => bif isDg (B p) then (true, (nbP B 4 p 0).1, cd ++ [1000 + (nbP B 4 p 0).2]) else bif isNm (B p) then (true, p + 1, cd ++ [B p]) else Y p cd
def clP (B : Nat → Int32) (r : PR) : PR := bif r.1 && decide (B r.2.1 = 41) then (true, r.2.1 + 1, r.2.2) else (false, r.2.1, r.2.2)
def nsP (B : Nat → Int32) (X : PF) : PF := fun p cd => bif decide (B p = 40) then clP B (eiP B X (p + 1) cd) else bif decide (B p = 33) then adS 33 (X (p + 1) cd) else bif decide (B p = 45) then adS 126 (X (p + 1) cd) else (false, p, cd)
def opP (B : Nat → Int32) : Nat → PF
  | 0 => lfP B (fun p cd => (false, p, cd))
  | g + 1 => lfP B (nsP B (opP B g))
/-! heights -/
def lrun : LC → Nat → Option Nat
  | [], h => some h
  | c :: t, h => match hgt c h with
    | none => none
    | some h' => lrun t h'
theorem lrun_app : ∀ (a c : LC) (h : Nat), lrun (a ++ c) h = match lrun a h with | none => none | some h' => lrun c h'
  | [], c, h => rfl
  | x :: a, c, h => by
    show (match hgt x h with | none => none | some h' => lrun (a ++ c) h') = match (match hgt x h with | none => none | some h' => lrun a h') with | none => none | some h' => lrun c h'
    cases hgt x h with
    | none => rfl
    | some h' => exact lrun_app a c h'
def HRL (s : LC) : Prop := ∀ h, lrun s h = some (h + 1)
theorem hg_bin {c : Int32} (hc : isBin c = true) (h : Nat) : hgt c (h + 2) = some (h + 1) := by
  unfold isBin at hc
  simp only [Bool.or_eq_true, decide_eq_true_eq] at hc
  rcases hc with e | e | e | e | e | e | e | e | e | e <;> subst e <;> rfl
theorem hg_un {c : Int32} (hc : c = 33 ∨ c = 126) (h : Nat) : hgt c (h + 1) = some (h + 1) := by
  rcases hc with e | e <;> subst e <;> rfl
theorem hg_nm {c : Int32} (hc : isNm c = true) (h : Nat) : hgt c h = some (h + 1) := by
  unfold hgt
  rw [hc, Bool.or_true]
  rfl
theorem th_v {v : Int32} (hv : ix v < 10000) : ix (1000 + v) = 1000 + ix v := ix_add (x := 1000) (by rw [show ix 1000 = 1000 from rfl]; omega)
theorem hg_num {v : Int32} (hv : ix v < 10000) (h : Nat) : hgt (1000 + v) h = some (h + 1) := by
  unfold hgt
  have := ix_t (1000 + v)
  rw [th_v hv] at this
  rw [decide_eq_true (show (1000 : Int32) ≤ 1000 + v by rw [i_le, show (1000 : Int32).toInt = 1000 from rfl]; omega)]
  rfl
theorem HRL_1 {c : Int32} (h : ∀ h, hgt c h = some (h + 1)) : HRL [c] := fun x => by
  show (match hgt c x with | none => none | some h' => lrun [] h') = _
  rw [h]
  rfl
theorem HRL_un {s : LC} {c : Int32} (hs : HRL s) (hc : c = 33 ∨ c = 126) : HRL (s ++ [c]) := fun x => by
  rw [lrun_app, hs x]
  show (match hgt c (x + 1) with | none => none | some h' => lrun [] h') = _
  rw [hg_un hc]
  rfl
theorem HRL_bin {s t : LC} {c : Int32} (hs : HRL s) (ht : HRL t) (hc : isBin c = true) : HRL (s ++ (t ++ [c])) := fun x => by
  rw [lrun_app, hs x]
  show lrun (t ++ [c]) (x + 1) = _
  rw [lrun_app, ht (x + 1)]
  show (match hgt c (x + 2) with | none => none | some h' => lrun [] h') = _
  rw [hg_bin hc]
  rfl
/-! what a part of the text does -/
def POk (n : Nat) (p : Nat) (cd : LC) (r : PR) : Prop := ∃ seg, r.2.2 = cd ++ seg ∧ p ≤ r.2.1 ∧ r.2.1 ≤ n ∧ seg.length + p ≤ r.2.1 ∧ (r.1 = true → HRL seg)
def PFok (n : Nat) (X : PF) : Prop := ∀ p cd, p ≤ n → POk n p cd (X p cd)
section PURE
variable {B : Nat → Int32} {n : Nat} {X : PF}
theorem loopP_ok {tk : Int32 → Bool} (hX : PFok n X) (hb : ∀ p, tk (B p) = true → p < n ∧ isBin (B p) = true) {p : Nat} {cd : LC} : ∀ m r, POk n p cd r → POk n p cd (loopP B tk X m r)
  | 0, r, h => h
  | m + 1, r, h => by
    unfold loopP
    cases ht : (r.1 && tk (B r.2.1)) with
    | false => exact h
    | true =>
      rw [Bool.and_eq_true] at ht
      have hbb := hb _ ht.2
      refine loopP_ok hX hb m _ ?_
      obtain ⟨seg, h1, h2, h3, h4, h5⟩ := h
      obtain ⟨sg, k1, k2, k3, k4, k5⟩ := hX (r.2.1 + 1) r.2.2 hbb.1
      refine ⟨seg ++ (sg ++ [B r.2.1]), ?_, ?_, k3, ?_, fun ok => HRL_bin (h5 ht.1) (k5 ok) hbb.2⟩
      · show (X (r.2.1 + 1) r.2.2).2.2 ++ [B r.2.1] = _
        rw [k1, h1]
        simp
      · show p ≤ (X (r.2.1 + 1) r.2.2).2.1
        omega
      · show (seg ++ (sg ++ [B r.2.1])).length + p ≤ (X (r.2.1 + 1) r.2.2).2.1
        simp only [List.length_append, List.length_cons, List.length_nil]
        omega
theorem binL_ok {tk : Int32 → Bool} {m : Nat} (hX : PFok n X) (hb : ∀ p, tk (B p) = true → p < n ∧ isBin (B p) = true) : PFok n (binL B tk m X) := fun p cd hp => loopP_ok hX hb m _ (hX p cd hp)
def Bok (B : Nat → Int32) (n : Nat) : Prop := ∀ p, n ≤ p → B p = -1
theorem Bn (hB : Bok B n) {p : Nat} {c : Int32} (h : B p = c) (hc : c ≠ -1) : p < n := Nat.lt_of_not_le (fun q => hc (by rw [← h, hB p q]))
theorem tk3_b (hB : Bok B n) {a e i : Int32} (ha : isBin a = true) (he : isBin e = true) (hi : isBin i = true) (h1 : a ≠ -1) (h2 : e ≠ -1) (h3 : i ≠ -1) (p : Nat) (h : tk3 a e i (B p) = true) : p < n ∧ isBin (B p) = true := by
  unfold tk3 at h
  simp only [Bool.or_eq_true, decide_eq_true_eq] at h
  rcases h with q | q | q
  · exact ⟨Bn hB q h1, by rw [q]; exact ha⟩
  · exact ⟨Bn hB q h2, by rw [q]; exact he⟩
  · exact ⟨Bn hB q h3, by rw [q]; exact hi⟩
theorem tk1_b (hB : Bok B n) {a : Int32} (ha : isBin a = true) (h1 : a ≠ -1) (p : Nat) (h : tk1 a (B p) = true) : p < n ∧ isBin (B p) = true := by
  unfold tk1 at h
  have q := of_decide_eq_true h
  exact ⟨Bn hB q h1, by rw [q]; exact ha⟩
theorem prP_ok (hB : Bok B n) (hX : PFok n X) : PFok n (prP B X) := binL_ok hX (tk3_b hB rfl rfl rfl (by decide) (by decide) (by decide))
theorem suP_ok (hB : Bok B n) (hX : PFok n X) : PFok n (suP B X) := binL_ok (prP_ok hB hX) (tk3_b hB rfl rfl rfl (by decide) (by decide) (by decide))
theorem coP_ok (hB : Bok B n) (hX : PFok n X) : PFok n (coP B X) := binL_ok (suP_ok hB hX) (tk3_b hB rfl rfl rfl (by decide) (by decide) (by decide))
theorem boP_ok (hB : Bok B n) (hX : PFok n X) : PFok n (boP B X) := binL_ok (coP_ok hB hX) (tk1_b hB rfl (by decide))
theorem eiP_ok (hB : Bok B n) (hX : PFok n X) : PFok n (eiP B X) := binL_ok (boP_ok hB hX) (tk1_b hB rfl (by decide))
theorem dg_ix {c : Int32} (h : isDg c = true) : 48 ≤ ix c ∧ ix c ≤ 57 := by
  unfold isDg at h
  rw [Bool.and_eq_true] at h
  have h1 := of_decide_eq_true h.1
  have h2 := of_decide_eq_true h.2
  have := ix_t c
  rw [i_le, show (48 : Int32).toInt = 48 from rfl] at h1
  rw [i_le, show (57 : Int32).toInt = 57 from rfl] at h2
  omega
theorem dg_n (hB : Bok B n) {p : Nat} (h : isDg (B p) = true) : p < n := Nat.lt_of_not_le (fun q => by rw [hB p q] at h; exact absurd h (by decide))
theorem nb_v {v c : Int32} (hv : ix v < 1000) (hc : isDg c = true) : ix (v * 10 + c - 48) = ix v * 10 + (ix c - 48) := by
  have d1 := dg_ix hc
  have e1 : ix (v * 10) = ix v * 10 := by rw [ix_mul (by rw [show ix 10 = 10 from rfl]; omega), show ix 10 = 10 from rfl]
  have e2 : ix (v * 10 + c) = ix v * 10 + ix c := by rw [ix_add (by omega), e1]
  have : v * 10 + c - 48 = nI (ix v * 10 + (ix c - 48)) := by
    have e3 : v * 10 + c = nI (ix v * 10 + ix c) := by rw [← e2, n_ix]
    rw [e3, show (48 : Int32) = nI 48 from rfl, nI_sub (by omega), show ix v * 10 + ix c - 48 = ix v * 10 + (ix c - 48) by omega]
  rw [this, ix_n (by omega)]
theorem nbP_ok (hB : Bok B n) : ∀ m p v, m ≤ 4 → p ≤ n → (ix v + 1) * 10 ^ m ≤ 10000 → p ≤ (nbP B m p v).1 ∧ (nbP B m p v).1 ≤ n ∧ ix (nbP B m p v).2 < 10000
  | 0, p, v, _, hp, hv => ⟨Nat.le_refl _, hp, by rw [Nat.pow_zero, Nat.mul_one] at hv; show ix v < 10000; omega⟩
  | m + 1, p, v, hm, hp, hv => by
    unfold nbP
    cases hd : isDg (B p) with
    | false =>
      have : 1 ≤ 10 ^ (m + 1) := Nat.pow_pos (by decide)
      have : (ix v + 1) * 1 ≤ (ix v + 1) * 10 ^ (m + 1) := Nat.mul_le_mul_left _ this
      exact ⟨Nat.le_refl _, hp, by show ix v < 10000; omega⟩
    | true =>
      have d1 := dg_ix hd
      have p1 : 1 ≤ 10 ^ m := Nat.pow_pos (by decide)
      have hv2 : (ix v + 1) * 10 * 10 ^ m ≤ 10000 := by rw [Nat.mul_assoc, Nat.mul_comm 10, ← Nat.pow_succ]; exact hv
      have hv3 : (ix v + 1) * 10 * 1 ≤ (ix v + 1) * 10 * 10 ^ m := Nat.mul_le_mul_left _ p1
      have e := nb_v (v := v) (c := B p) (by omega) hd
      have := nbP_ok hB m (p + 1) (v * 10 + B p - 48) (by omega) (dg_n hB hd) (by
        rw [e]
        exact Nat.le_trans (Nat.mul_le_mul_right _ (by omega)) hv2)
      exact ⟨by show p ≤ (nbP B m (p + 1) (v * 10 + B p - 48)).1; omega, this.2⟩
theorem nbP_1 (hB : Bok B n) {p : Nat} (hp : p ≤ n) (hd : isDg (B p) = true) : p + 1 ≤ (nbP B 4 p 0).1 ∧ (nbP B 4 p 0).1 ≤ n ∧ ix (nbP B 4 p 0).2 < 10000 := by
  have h1 := nbP_ok hB 4 p 0 (by decide) hp (by decide)
  have d1 := dg_ix hd
  have e := nb_v (v := 0) (c := B p) (by decide) hd
  have h2 := nbP_ok hB 3 (p + 1) (0 * 10 + B p - 48) (by decide) (dg_n hB hd) (by
    rw [e, show ix 0 = 0 from rfl, show (10 : Nat) ^ 3 = 1000 by decide]; omega)
  have : nbP B 4 p 0 = nbP B 3 (p + 1) (0 * 10 + B p - 48) := by
    show (bif isDg (B p) then _ else _) = _
    rw [hd]
    rfl
  rw [this]
  exact h2
theorem nm_n (hB : Bok B n) {p : Nat} (h : isNm (B p) = true) : p < n := Nat.lt_of_not_le (fun q => by rw [hB p q] at h; exact absurd h (by decide))
theorem lfP_ok (hB : Bok B n) {Y : PF} (hY : PFok n Y) : PFok n (lfP B Y) := by
  intro p cd hp
  unfold lfP
  cases hd : isDg (B p) with
  | true =>
    have h := nbP_1 hB hp hd
    refine ⟨[1000 + (nbP B 4 p 0).2], rfl, ?_, h.2.1, ?_, fun _ => HRL_1 (hg_num h.2.2)⟩
    · show p ≤ (nbP B 4 p 0).1; omega
    · show 1 + p ≤ (nbP B 4 p 0).1; omega
  | false =>
    cases hn : isNm (B p) with
    | true =>
      have h := nm_n hB hn
      exact ⟨[B p], rfl, Nat.le_succ _, h, by show 1 + p ≤ p + 1; omega, fun _ => HRL_1 (hg_nm hn)⟩
    | false => exact hY p cd hp
theorem clP_ok (hB : Bok B n) {p : Nat} {cd : LC} {r : PR} (h : POk n p cd r) : POk n p cd (clP B r) := by
  obtain ⟨seg, h1, h2, h3, h4, h5⟩ := h
  unfold clP
  cases hc : (r.1 && decide (B r.2.1 = 41)) with
  | false => exact ⟨seg, h1, h2, h3, h4, fun q => Bool.noConfusion (show false = true from q)⟩
  | true =>
    rw [Bool.and_eq_true] at hc
    have := Bn hB (of_decide_eq_true hc.2) (by decide)
    exact ⟨seg, h1, Nat.le_succ_of_le h2, this, Nat.le_succ_of_le h4, fun _ => h5 hc.1⟩
theorem POk_1 {p : Nat} {cd : LC} {r : PR} (h : POk n (p + 1) cd r) : POk n p cd r := by
  obtain ⟨seg, h1, h2, h3, h4, h5⟩ := h
  exact ⟨seg, h1, by omega, h3, by omega, h5⟩
theorem adS_ok {c : Int32} (hc : c = 33 ∨ c = 126) {p : Nat} {cd : LC} {r : PR} (h : POk n (p + 1) cd r) : POk n p cd (adS c r) := by
  obtain ⟨seg, h1, h2, h3, h4, h5⟩ := h
  refine ⟨seg ++ [c], ?_, by show p ≤ r.2.1; omega, h3, ?_, fun q => HRL_un (h5 q) hc⟩
  · show r.2.2 ++ [c] = _
    rw [h1, List.append_assoc]
  · show (seg ++ [c]).length + p ≤ r.2.1
    simp only [List.length_append, List.length_cons, List.length_nil]
    omega
theorem nsP_ok (hB : Bok B n) (hX : PFok n X) : PFok n (nsP B X) := by
  intro p cd hp
  unfold nsP
  cases h40 : decide (B p = 40) with
  | true =>
    have h := Bn hB (of_decide_eq_true h40) (by decide)
    exact clP_ok hB (POk_1 (eiP_ok hB hX (p + 1) cd h))
  | false =>
    cases h33 : decide (B p = 33) with
    | true =>
      have h := Bn hB (of_decide_eq_true h33) (by decide)
      exact adS_ok (Or.inl rfl) (hX (p + 1) cd h)
    | false =>
      cases h45 : decide (B p = 45) with
      | true =>
        have h := Bn hB (of_decide_eq_true h45) (by decide)
        exact adS_ok (Or.inr rfl) (hX (p + 1) cd h)
      | false => exact ⟨[], (List.append_nil _).symm, Nat.le_refl _, hp, by show 0 + p ≤ p; omega, fun q => Bool.noConfusion (show false = true from q)⟩
theorem opP_ok (hB : Bok B n) : ∀ g, PFok n (opP B g)
  | 0 => lfP_ok hB (fun p cd hp => ⟨[], (List.append_nil _).symm, Nat.le_refl _, hp, by show 0 + p ≤ p; omega, fun q => Bool.noConfusion (show false = true from q)⟩)
  | g + 1 => lfP_ok hB (nsP_ok hB (opP_ok hB g))
end PURE
