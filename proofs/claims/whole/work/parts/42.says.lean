/-! WHAT THE LAW SAYS: A PURE PICTURE -/
/-- mood, hunger, last, hour -/
abbrev St : Type := Int32 × Int32 × Int32 × Int32
def nmV (s : St) (t r c : Int32) : Int32 := bif decide (c = 109) then s.1 else bif decide (c = 103) then s.2.1 else bif decide (c = 108) then s.2.2.1 else bif decide (c = 104) then s.2.2.2 else bif decide (c = 114) then r else t
def joinV (c x y : Int32) : Int32 :=
  bif decide (c = 38) then bI (!decide (x = 0) && !decide (y = 0)) else bif decide (c = 42) then x * y else bif decide (c = 43) then x + y else bif decide (c = 45) then x - y
  else bif decide (c = 47) then (bif decide (y = 0) then 0 else x / y) else bif decide (c = 60) then bI (decide (x < y)) else bif decide (c = 61) then bI (decide (x = y))
  else bif decide (c = 62) then bI (decide (y < x)) else bif decide (c = 124) then bI (!decide (x = 0) || !decide (y = 0)) else bif decide (y = 0) then 0 else x - x / y * y
def isPu (c : Int32) : Bool := decide (1000 ≤ c) || isNm c
def isUn (c : Int32) : Bool := decide (c = 33) || decide (c = 126)
def unV (c x : Int32) : Int32 := bif decide (c = 126) then -x else bI (decide (x = 0))
def puV (s : St) (t r c : Int32) : Int32 := bif decide (1000 ≤ c) then c - 1000 else nmV s t r c
def ev1 (s : St) (t r c : Int32) (st : List Int32) : List Int32 :=
  bif isPu c then puV s t r c :: st
  else bif isUn c then (match st with | [] => [] | x :: u => unV c x :: u)
  else match st with | y :: x :: u => joinV c x y :: u | u => u
def evS (sg : Nat → Int32) (s : St) (t r : Int32) : Nat → Nat → List Int32 → List Int32
  | 0, _, st => st
  | n + 1, k, st => evS sg s t r n (k + 1) (ev1 s t r (sg k) st)
def hd0 : List Int32 → Int32
  | [] => 0
  | x :: _ => x
/-- a stretch of signs, worked out -/
def evl (sg : Nat → Int32) (s : St) (t r : Int32) (a e : Nat) : Int32 := hd0 (evS sg s t r (e - a) a [])
def sayL (sg ak en : Nat → Int32) (s : St) (t r : Int32) : Nat → Nat → Nat → Int32
  | 0, _, _ => 0
  | n + 1, i, a => bif decide (ix (ak i) = a) || !decide (evl sg s t r a (ix (ak i)) = 0) then evl sg s t r (ix (ak i)) (ix (en i)) &&& 15 else sayL sg ak en s t r n (i + 1) (ix (en i))
/-- what he says with a remark, so told, with such a temper -/
def sayV (b : Bool) (S : M2) (s : St) (t r : Int32) : Int32 :=
  bif decide (gI S (nwC b) 4 = 0) then (s.1 + 3 * r + s.2.1 + s.2.2.1) &&& 15
  else sayL (gI S (nwC b + 1)) (gI S (nwC b + 2)) (gI S (nwC b + 3)) s t r (ix (gI S (nwC b) 4)) 0 0
/-- a stack in an array -/
def stk (M : M2) (r : Nat) : List Int32 → Prop
  | [] => True
  | x :: t => gI M r t.length = x ∧ stk M r t
theorem stk_sI {M : M2} {r n : Nat} {v : Int32} : ∀ {t : List Int32}, stk M r t → t.length ≤ n → stk (sI M r n v) r t
  | [], _, _ => trivial
  | c :: t, h, hn => ⟨by rw [gI_oj (by have : (c :: t).length = t.length + 1 := rfl; omega)]; exact h.1, stk_sI h.2 (by have : (c :: t).length = t.length + 1 := rfl; omega)⟩
theorem stk_push {M : M2} {r : Nat} {v : Int32} {t : List Int32} (h : stk M r t) : stk (sI M r t.length v) r (v :: t) := ⟨gI_s .., stk_sI h (Nat.le_refl _)⟩
theorem stk_a {M M' : M2} {r : Nat} (e : ∀ j, gI M' r j = gI M r j) : ∀ {t : List Int32}, stk M r t → stk M' r t
  | [], _ => trivial
  | _ :: t, h => ⟨(e _).trans h.1, stk_a e h.2⟩
theorem hgt_pu {c : Int32} {h h' : Nat} (p : isPu c = true) (q : hgt c h = some h') : h' = h + 1 := by
  unfold hgt at q
  unfold isPu at p
  rw [p] at q
  exact (Option.some.inj q).symm
theorem hgt_un {c : Int32} {h h' : Nat} (p : isPu c = false) (p2 : isUn c = true) (q : hgt c h = some h') : h' = h ∧ 1 ≤ h := by
  unfold hgt at q
  unfold isPu at p
  unfold isUn at p2
  rw [p, p2] at q
  dsimp only [cond_true, cond_false] at q
  cases hb : Nat.blt 0 h with
  | true =>
    rw [hb] at q
    have := Nat.le_of_ble_eq_true hb
    exact ⟨(Option.some.inj q).symm, this⟩
  | false => rw [hb] at q; exact absurd q (by simp)
theorem hgt_bin {c : Int32} {h h' : Nat} (p : isPu c = false) (p2 : isUn c = false) (q : hgt c h = some h') : h' = h - 1 ∧ 2 ≤ h := by
  unfold hgt at q
  unfold isPu at p
  unfold isUn at p2
  rw [p, p2] at q
  dsimp only [cond_true, cond_false] at q
  cases hb : Nat.blt 1 h with
  | true =>
    rw [hb] at q
    have := Nat.le_of_ble_eq_true hb
    exact ⟨(Option.some.inj q).symm, this⟩
  | false => rw [hb] at q; exact absurd q (by simp)
theorem hrun_s {sg : Nat → Int32} {n k h x : Nat} (q : hrun sg (n + 1) k h = some x) : ∃ h', hgt (sg k) h = some h' ∧ hrun sg n (k + 1) h' = some x := by
  unfold hrun at q
  cases hh : hgt (sg k) h with
  | none => rw [hh] at q; exact absurd q (by simp)
  | some h' => rw [hh] at q; exact ⟨h', rfl, q⟩
theorem sgR_cases {c a w : Int32} (h : sgR c a w) : (isPu c = true ∧ decide (1000 ≤ c) = true ∧ a = 1 ∧ w = c - 1000) ∨ (isPu c = true ∧ decide (1000 ≤ c) = false ∧ isNm c = true ∧ a = 2 ∧ w = nmI c) ∨ (isPu c = false ∧ isUn c = true ∧ c = 33 ∧ a = 3) ∨ (isPu c = false ∧ isUn c = true ∧ c = 126 ∧ a = 4) ∨ (isPu c = false ∧ isUn c = false ∧ isBin c = true ∧ a = c) := by
  rcases h with ⟨v, hv, hc, ha, hw⟩ | ⟨hc, ha, hw⟩ | ⟨hc, ha⟩ | ⟨hc, ha⟩ | ⟨hc, ha⟩
  · left
    have e : decide (1000 ≤ c) = true := by
      apply decide_eq_true
      rw [i_le, hc]
      have h1 := ix_t v
      have h2 : (1000 : Int32).toInt = 1000 := rfl
      have : (1000 + v).toInt = (1000 : Int32).toInt + v.toInt := add_toInt (by omega) (by omega)
      omega
    refine ⟨by unfold isPu; rw [e]; rfl, e, ha, ?_⟩
    rw [hw, hc, Int32.add_comm, Int32.add_sub_cancel]
  · right; left
    have h2 := hc
    unfold isNm at h2
    simp only [Bool.or_eq_true, decide_eq_true_eq] at h2
    refine ⟨by unfold isPu; rw [hc, Bool.or_true], ?_, hc, ha, hw⟩
    rcases h2 with h | h | h | h | h | h <;> subst h <;> decide
  · subst hc; exact Or.inr (Or.inr (Or.inl ⟨by decide, by decide, rfl, ha⟩))
  · subst hc; exact Or.inr (Or.inr (Or.inr (Or.inl ⟨by decide, by decide, rfl, ha⟩)))
  · right; right; right; right
    have h2 := hc
    unfold isBin at h2
    simp only [Bool.or_eq_true, decide_eq_true_eq] at h2
    refine ⟨?_, ?_, hc, ha⟩
    · rcases h2 with h | h | h | h | h | h | h | h | h | h <;> subst h <;> decide
    · rcases h2 with h | h | h | h | h | h | h | h | h | h <;> subst h <;> decide
theorem bin_cases {c : Int32} (h : isBin c = true) : c = 38 ∨ c = 42 ∨ c = 43 ∨ c = 45 ∨ c = 47 ∨ c = 60 ∨ c = 61 ∨ c = 62 ∨ c = 124 ∨ c = 37 := by
  unfold isBin at h
  simpa only [Bool.or_eq_true, decide_eq_true_eq] using h
theorem nm_cases {c : Int32} (h : isNm c = true) : c = 109 ∨ c = 103 ∨ c = 108 ∨ c = 104 ∨ c = 114 ∨ c = 116 := by
  unfold isNm at h
  simpa only [Bool.or_eq_true, decide_eq_true_eq] using h
theorem sw_t {c k : Int32} {A B : Prop} (h : c = k) (a : A) : (c = k → A) ∧ (¬ c = k → B) := ⟨fun _ => a, fun q => absurd h q⟩
theorem sw_f {c k : Int32} {A B : Prop} (h : ¬ c = k) (b : B) : (c = k → A) ∧ (¬ c = k → B) := ⟨fun q => absurd q h, fun _ => b⟩
theorem brK_n {c : Prop} [Decidable c] {A B : Prop} (h1 : (!decide c) = false → A) (h2 : (!decide c) = true → B) : brK c A B := ⟨fun h => h1 (by rw [decide_eq_true h]; rfl), fun h => h2 (by rw [decide_eq_false h]; rfl)⟩
section SAYS
variable {d : Nat} {b : Bool} {M : M2} {f : Int32 → Mm → Prop}
theorem c53 {c : Int32} (hd : 1 ≤ d) (k : f (bI (isNm c)) (FR b, M)) : WP d 107 53 0 [.int c] [] 107 (FR b, M) (rI f) := by
  obtain ⟨d, rfl⟩ := ex1 hd
  unfold isNm at k
  refine v53_0 (brK_d (fun h => ?_) (fun h => brK_d (fun h2 => ?_) (fun h2 => brK_d (fun h3 => ?_) (fun h3 => brK_d (fun h4 => ?_) (fun h4 => brK_d (fun h5 => ?_) (fun h5 => brK_d (fun h6 => ?_) (fun h6 => ?_)))))))
  · rw [h] at k; exact k
  · rw [h, h2] at k; exact k
  · rw [h, h2, h3] at k; exact k
  · rw [h, h2, h3, h4] at k; exact k
  · rw [h, h2, h3, h4, h5] at k; exact k
  · rw [h, h2, h3, h4, h5, h6] at k; exact k
  · rw [h, h2, h3, h4, h5, h6] at k; exact k
/-- one who is so -/
def HS (M : M2) (h : Nat) (s : St) (t : Int32) : Prop := gI M h 0 = s.1 ∧ gI M h 1 = s.2.1 ∧ gI M h 2 = s.2.2.1 ∧ gI M h 3 = s.2.2.2 ∧ gI M h 6 = t
theorem c62 {c r t : Int32} {s : St} {h : Nat} (hd : 1 ≤ d) (hr : h < 107) (hk : kd h = 3) (hs : HS M h s t) (hc : isNm c = true) (k : f (nmV s t r c) (FR b, M)) : WP d 107 62 0 [.int c, .ref h, .int r] [] 107 (FR b, M) (rI f) := by
  obtain ⟨d, rfl⟩ := ex1 hd
  obtain ⟨h0, h1, h2, h3, h6⟩ := hs
  refine v62_0 ?_
  rcases nm_cases hc with e | e | e | e | e | e <;> subst e <;> (repeat (first | refine sw_t rfl ?_ | refine sw_f (by decide) ?_)) <;> first | exact k | (refine oK_i hr hk ?_)
  · rw [h0]; exact k
  · rw [h1]; exact k
  · rw [h2]; exact k
  · rw [h3]; exact k
  · rw [h6]; exact k
theorem c63 {c x y : Int32} (hd : 1 ≤ d) (hc : isBin c = true) (k : f (joinV c x y) (FR b, M)) : WP d 107 63 0 [.int c, .int x, .int y] [] 107 (FR b, M) (rI f) := by
  obtain ⟨d, rfl⟩ := ex1 hd
  refine v63_0 ?_
  rcases bin_cases hc with e | e | e | e | e | e | e | e | e | e <;> subst e <;> (repeat (first | refine sw_t rfl ?_ | refine sw_f (by decide) ?_))
  · have k : f (bI (!decide (x = 0) && !decide (y = 0))) (FR b, M) := k
    refine brK_n (fun h => ?_) (fun h => brK_n (fun h2 => ?_) (fun h2 => ?_))
    · rw [h] at k; exact k
    · rw [h, h2] at k; exact k
    · rw [h, h2] at k; exact k
  · exact k
  · exact k
  · exact k
  · have k : f (bif decide (y = 0) then 0 else x / y) (FR b, M) := k
    refine brK_d (fun h => ?_) (fun h => nzK_i (of_decide_eq_false h) ?_)
    · rw [h] at k; exact k
    · rw [h] at k; exact k
  · have k : f (bI (decide (x < y))) (FR b, M) := k
    refine ⟨fun h => ?_, fun h => ?_⟩
    · rw [decide_eq_false (show ¬ x < y from fun q => by rw [i_lt] at q; rw [i_le] at h; omega)] at k; exact k
    · rw [decide_eq_true (i_nle h)] at k; exact k
  · have k : f (bI (decide (x = y))) (FR b, M) := k
    refine brK_d (fun h => ?_) (fun h => ?_)
    · rw [h] at k; exact k
    · rw [h] at k; exact k
  · have k : f (bI (decide (y < x))) (FR b, M) := k
    refine ⟨fun h => ?_, fun h => ?_⟩
    · rw [decide_eq_false (show ¬ y < x from fun q => by rw [i_lt] at q; rw [i_le] at h; omega)] at k; exact k
    · rw [decide_eq_true (i_nle h)] at k; exact k
  · have k : f (bI (!decide (x = 0) || !decide (y = 0))) (FR b, M) := k
    refine brK_n (fun h => brK_n (fun h2 => ?_) (fun h2 => ?_)) (fun h => ?_)
    · rw [h, h2] at k; exact k
    · rw [h, h2] at k; exact k
    · rw [h] at k; exact k
  · have k : f (bif decide (y = 0) then 0 else x - x / y * y) (FR b, M) := k
    refine brK_d (fun h => ?_) (fun h => nzK_i (of_decide_eq_false h) ?_)
    · rw [h] at k; exact k
    · rw [h] at k; exact k
theorem dvm1 (x : Int32) : x / (-1) = -x := by
  apply i_eq.mpr
  have h : ((-1 : Int32)).toInt = -1 := rfl
  rw [Int32.toInt_div, h, Int.tdiv_neg, Int.tdiv_one, Int32.toInt_neg]
theorem rmm1 (x : Int32) : x - x / (-1) * (-1) = 0 := by
  rw [dvm1]
  apply i_eq.mpr
  simp
theorem c218 {c x y : Int32} (hd : 1 ≤ d) (hc : isBin c = true) (k : f (joinV c x y) (FR b, M)) : WP d 107 218 0 [.int c, .int x, .int y] [] 107 (FR b, M) (rI f) := by
  obtain ⟨d, rfl⟩ := ex1 hd
  refine v218_0 ?_
  rcases bin_cases hc with e | e | e | e | e | e | e | e | e | e <;> subst e <;> (repeat (first | refine sw_t rfl ?_ | refine sw_f (by decide) ?_))
  · have k : f (bI (!decide (x = 0) && !decide (y = 0))) (FR b, M) := k
    refine brK_n (fun h => ?_) (fun h => brK_n (fun h2 => ?_) (fun h2 => ?_))
    · rw [h] at k; exact k
    · rw [h, h2] at k; exact k
    · rw [h, h2] at k; exact k
  · exact k
  · exact k
  · exact k
  · have k : f (bif decide (y = 0) then 0 else x / y) (FR b, M) := k
    refine brK_d (fun h => ?_) (fun h => ⟨fun h2 => ?_, fun _ => nzK_i (of_decide_eq_false h) ?_⟩)
    · rw [h] at k; exact k
    · subst h2; rw [h] at k; rw [← dvm1]; exact k
    · rw [h] at k; exact k
  · have k : f (bI (decide (x < y))) (FR b, M) := k
    refine ⟨fun h => ?_, fun h => ?_⟩
    · rw [decide_eq_false (show ¬ x < y from fun q => by rw [i_lt] at q; rw [i_le] at h; omega)] at k; exact k
    · rw [decide_eq_true (i_nle h)] at k; exact k
  · have k : f (bI (decide (x = y))) (FR b, M) := k
    refine brK_d (fun h => ?_) (fun h => ?_)
    · rw [h] at k; exact k
    · rw [h] at k; exact k
  · have k : f (bI (decide (y < x))) (FR b, M) := k
    refine ⟨fun h => ?_, fun h => ?_⟩
    · rw [decide_eq_false (show ¬ y < x from fun q => by rw [i_lt] at q; rw [i_le] at h; omega)] at k; exact k
    · rw [decide_eq_true (i_nle h)] at k; exact k
  · have k : f (bI (!decide (x = 0) || !decide (y = 0))) (FR b, M) := k
    refine brK_n (fun h => brK_n (fun h2 => ?_) (fun h2 => ?_)) (fun h => ?_)
    · rw [h, h2] at k; exact k
    · rw [h, h2] at k; exact k
    · rw [h] at k; exact k
  · have k : f (bif decide (y = 0) then 0 else x - x / y * y) (FR b, M) := k
    refine brK_d (fun h => ?_) (fun h => ⟨fun h2 => ?_, fun _ => nzK_i (of_decide_eq_false h) ?_⟩)
    · rw [h] at k; exact k
    · subst h2; rw [h] at k
      have k : f (x - x / (-1) * (-1)) (FR b, M) := k
      rw [rmm1] at k; exact k
    · rw [h] at k; exact k
end SAYS
