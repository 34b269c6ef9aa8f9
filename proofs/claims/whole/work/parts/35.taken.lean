section PAIRS
variable {b : Bool} {M : M2}
def abv (k : Nat) : Nat := [0, 0, 0, 2, 1, 3, 0, 6].getD k 0
def und : Nat → Nat → Nat → Bool
  | 0, x, k => Nat.beq x k
  | m + 1, x, k => bif Nat.beq x k then true else und m (abv x) k
theorem abv_lt : ∀ x, x < 8 → abv x < 8 := by decide
theorem beq_ix {x k : Int32} : Nat.beq (ix x) (ix k) = decide (x = k) := by
  by_cases h : x = k
  · subst h; rw [Nat.beq_refl, decide_eq_true rfl]
  · rw [decide_eq_false h]
    cases hb : Nat.beq (ix x) (ix k) with
    | false => rfl
    | true => exact absurd (ix_inj (Nat.eq_of_beq_eq_true hb)) h
theorem l176 {d : Nat} {f : Int32 → Mm → Prop} {u v : Value} {k : Int32} (hd : 1 ≤ d) (hS : StatW M) : ∀ m, ∀ n, n + m = 8 → ∀ x : Int32, ix x < 8 → f (bI (und m (ix x) (ix k))) (FR b, M) → WP (d + 1) 107 176 12 [u, v, .int k, .int x, .int (nI n)] [] 107 (FR b, M) (rI f) := by
  intro m
  induction m with
  | zero =>
    intro n hn x hx q
    have : n = 8 := by omega
    subst this
    unfold und at q
    rw [beq_ix] at q
    refine v176_12 (brK_t (by decide) (brK_d (fun h => ?_) (fun h => ?_)))
    · rw [h] at q; exact q
    · rw [h] at q; exact q
  | succ m ih =>
    intro n hn x hx q
    unfold und at q
    rw [beq_ix] at q
    refine v176_12 (brK_f (fun h => ?_) (brK_d (fun h => ?_) (fun h => ?_)))
    · have := (cnt_lt (n := n) (m := 8) rfl (by decide) (by omega)).mp h
      omega
    · have e : x = k := of_decide_eq_true h
      rw [h] at q
      exact brK_t e q
    · rw [h] at q
      refine c15 hd (by decide) (Or.inr rfl) ⟨rfl, ?_⟩
      have e : atV M 2 x = nI (abv (ix x)) := by
        rw [atV_t (show ix x < ln 2 from hx)]
        exact hS.2.1 _ hx
      dsimp only
      rw [e, ← nI_succ]
      have := abv_lt _ hx
      have e2 : ix (nI (abv (ix x))) = abv (ix x) := ix_n (by omega)
      refine ih (n + 1) (by omega) _ (by rw [e2]; exact this) ?_
      rw [e2]
      exact q
theorem c176 {d : Nat} {f : Int32 → Mm → Prop} {n k : Int32} (hd : 2 ≤ d) (hS : StatW M) (hn : ix n < 50) (hk : ix (gI M 41 (ix n)) < 8) (q : f (bI (und 8 (ix (gI M 41 (ix n))) (ix k))) (FR b, M)) : WP d 107 176 0 [.ref 40, .int n, .int k, U, U] [] 107 (FR b, M) (rI f) := by
  obtain ⟨d, rfl⟩ := ex1 (e := 1) hd
  refine v176_0 (c15 (by omega) (by decide) (Or.inl rfl) ⟨rfl, ?_⟩)
  rw [atV_t (show ix n < ln 41 from hn)]
  exact l176 (by omega) hS 8 0 rfl _ hk q
/-- isUnder, the reference's -/
def un34 (i j : Nat) : Bool := (Nat.beq j 3 && Nat.beq i 5) || (Nat.beq j 6 && Nat.beq i 7)
def un19 (i j : Nat) : Bool := (Nat.beq j 2 && (Nat.beq i 3 || Nat.beq i 5)) || un34 i j
theorem lt8 {j : Nat} (h : j < 8) : j = 0 ∨ j = 1 ∨ j = 2 ∨ j = 3 ∨ j = 4 ∨ j = 5 ∨ j = 6 ∨ j = 7 := by omega
theorem l283_34 {d : Nat} {f : Int32 → Mm → Prop} {i j : Nat} (hi : i < 8) (hj : j < 8) (q : f (bI (un34 i j)) (FR b, M)) : WP (d + 1) 107 283 34 [.int (nI i), .int (nI j)] [] 107 (FR b, M) (rI f) := by
  refine v283_34 ?_
  rcases lt8 hi with h | h | h | h | h | h | h | h <;> subst h <;> rcases lt8 hj with h | h | h | h | h | h | h | h <;> subst h <;> simp [brK, nI] <;> exact q
theorem l283_19 {d : Nat} {f : Int32 → Mm → Prop} {i j : Nat} (hi : i < 8) (hj : j < 8) (q : f (bI (un19 i j)) (FR b, M)) : WP (d + 1) 107 283 19 [.int (nI i), .int (nI j)] [] 107 (FR b, M) (rI f) := by
  have q2 : un19 i j = un34 i j → WP (d + 1) 107 283 34 [.int (nI i), .int (nI j)] [] 107 (FR b, M) (rI f) := fun h => l283_34 hi hj (by rw [← h]; exact q)
  refine v283_19 ?_
  rcases lt8 hi with h | h | h | h | h | h | h | h <;> subst h <;> rcases lt8 hj with h | h | h | h | h | h | h | h <;> subst h <;> simp [brK, nI] <;> first | exact q | exact q2 rfl
theorem un_all : ∀ i, i < 8 → ∀ j, j < 8 → und 8 i j = (Nat.beq j 0 || (Nat.beq i j || ((Nat.beq j 1 && Nat.beq i 4) || un19 i j))) := by decide
theorem c283 {d : Nat} {f : Int32 → Mm → Prop} {x k : Int32} (hd : 1 ≤ d) (hx : ix x < 8) (hk : ix k < 8) (q : f (bI (und 8 (ix x) (ix k))) (FR b, M)) : WP d 107 283 0 [.int x, .int k] [] 107 (FR b, M) (rI f) := by
  obtain ⟨d, rfl⟩ := ex1 hd
  obtain ⟨i, hi, rfl⟩ := nI_of_lt hx
  obtain ⟨j, hj, rfl⟩ := nI_of_lt hk
  rw [ix_n (by omega), ix_n (by omega), un_all i hi j hj] at q
  have q2 : (Nat.beq j 0 || (Nat.beq i j || ((Nat.beq j 1 && Nat.beq i 4) || un19 i j))) = un19 i j → WP (d + 1) 107 283 19 [.int (nI i), .int (nI j)] [] 107 (FR b, M) (rI f) := fun h => l283_19 hi hj (by rw [← h]; exact q)
  refine v283_0 ?_
  clear hx hk
  rcases lt8 hi with h | h | h | h | h | h | h | h <;> subst h <;> rcases lt8 hj with h | h | h | h | h | h | h | h <;> subst h <;> simp [brK, nI] <;> first | exact q | exact q2 rfl
end PAIRS
