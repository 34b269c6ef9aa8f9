/-! THE TRACK READ -/
def sm (p : Nat → Int32) : Nat → Int32
  | 0 => 0
  | n + 1 => sm p n + p n
def bitV (x y : Int32) : Int32 := (x >>> (y &&& 31)) &&& 1
theorem bit1 : ∀ a, a < 16 → ∀ c, c < 16 → bitV ((1 : Int32) <<< (nI a &&& 31)) (nI c) = bI (decide (a = c)) := by decide
theorem bit1' {x y : Int32} (hx : ix x < 16) (hy : ix y < 16) : bitV ((1 : Int32) <<< (x &&& 31)) y = bI (decide (y = x)) := by
  have := bit1 (ix x) hx (ix y) hy
  rw [n_ix, n_ix] at this
  rw [this]
  congr 1
  by_cases h : y = x
  · rw [decide_eq_true h, h]; simp
  · rw [decide_eq_false h]
    exact decide_eq_false (fun q => h (ix_inj q).symm)
theorem bI_nI (p : Bool) : bI p = nI (bif p then 1 else 0) := by cases p <;> rfl
theorem sm_cn {f : Nat → Int32} {p : Nat → Bool} (h : ∀ j, f j = bI (p j)) : ∀ n, sm f n = nI (cn p n)
  | 0 => rfl
  | n + 1 => by
    show sm f n + f n = _
    rw [sm_cn h n, h, bI_nI, nI_add]
    rfl
theorem sm_c {f g : Nat → Int32} (n : Nat) (h : ∀ j, j < n → f j = g j) : sm f n = sm g n := by
  induction n with
  | zero => rfl
  | succ n ih =>
    show sm f n + f n = sm g n + g n
    rw [ih (fun j hj => h j (by omega)), h n (by omega)]
section SCAN
variable {d : Nat} {b : Bool} {S : M2} {rem : Nat → Int32}
theorem c75 {f : Int32 → Mm → Prop} {x : Int32} {N : M2} (hd : 1 ≤ d) (hn : ix x ≤ 1000) (hT : TrK b S rem (ix x) N) (k : f (nI (cn (lmn b S rem) (ix x))) (FR b, N)) : WP d 107 75 0 [.ref 4, .int x, U, U] [] 107 (FR b, N) (rI f) := by
  obtain ⟨d, rfl⟩ := ex1 hd
  have l : ∀ m i, i + m = ix x → WP (d + 1) 107 75 4 [.ref 4, .int (nI (ix x)), .int (nI (cn (lmn b S rem) i)), .int (nI i)] [] 107 (FR b, N) (rI f) := by
    intro m
    induction m with
    | zero =>
      intro i hi
      have : i = ix x := by omega
      subst this
      exact v75_4 (brK_t ((cnt_lt rfl (by omega) (Nat.le_refl _)).mpr rfl) k)
    | succ m ih =>
      intro i hi
      have k1 := nI_toInt (n := i) (by omega)
      refine v75_4 (brK_f (fun z => by have := (cnt_lt (n := i) (m := ix x) rfl (by omega) (by omega)).mp z; omega) (brK_f (fun z => by rw [i_le, show (1000 : Int32).toInt = 1000 from rfl] at z; omega) (iK_i (by rw [ix_n (by omega)]; omega) ?_)))
      have e : gI N 54 (ix (nI i)) = mun b S rem i := by rw [ix_n (by omega)]; exact hT.2 i (by omega)
      have c0 : (nI (cn (lmn b S rem) i) + 0 : Int32) = nI (cn (lmn b S rem) i) := Int32.add_zero _
      have nx := ih (i + 1) (by omega)
      rw [e, c0, nI_1, nI_1]
      have ec : cn (lmn b S rem) (i + 1) = cn (lmn b S rem) i + (bif lmn b S rem i then 1 else 0) := rfl
      rw [ec] at nx
      refine ⟨fun z => ?_, fun z => ?_⟩
      · rw [mun_lump.mp z] at nx; exact nx
      · have : lmn b S rem i = true := by
          cases hz : lmn b S rem i with
          | true => rfl
          | false => exact absurd (mun_lump.mpr hz) z
        rw [this] at nx; exact nx
  have := l (ix x) 0 (by omega)
  rw [n_ix] at this
  exact v75_0 this
theorem c76 {f : Int32 → Mm → Prop} {x : Int32} {N : M2} (hd : 1 ≤ d) (hn : ix x ≤ 1000) (hT : TrK b S rem (ix x) N) (k : f (fstB (lmn b S rem) (ix x) 0) (FR b, N)) : WP d 107 76 0 [.ref 4, .int x, U] [] 107 (FR b, N) (rI f) := by
  obtain ⟨d, rfl⟩ := ex1 hd
  have l : ∀ m i, i + m = ix x → f (fstB (lmn b S rem) m i) (FR b, N) → WP (d + 1) 107 76 2 [.ref 4, .int (nI (ix x)), .int (nI i)] [] 107 (FR b, N) (rI f) := by
    intro m
    induction m with
    | zero =>
      intro i hi k
      have : i = ix x := by omega
      subst this
      exact v76_2 (brK_t ((cnt_lt rfl (by omega) (Nat.le_refl _)).mpr rfl) k)
    | succ m ih =>
      intro i hi k
      have k1 := nI_toInt (n := i) (by omega)
      refine v76_2 (brK_f (fun z => by have := (cnt_lt (n := i) (m := ix x) rfl (by omega) (by omega)).mp z; omega) (brK_f (fun z => by rw [i_le, show (1000 : Int32).toInt = 1000 from rfl] at z; omega) (iK_i (by rw [ix_n (by omega)]; omega) ?_)))
      have e : gI N 54 (ix (nI i)) = mun b S rem i := by rw [ix_n (by omega)]; exact hT.2 i (by omega)
      unfold fstB at k
      rw [e, nI_1]
      refine ⟨fun z => ?_, fun z => ?_⟩
      · rw [mun_lump.mp z] at k; exact ih (i + 1) (by omega) k
      · have : lmn b S rem i = true := by
          cases hz : lmn b S rem i with
          | true => rfl
          | false => exact absurd (mun_lump.mpr hz) z
        rw [this] at k; exact k
  have := l (ix x) 0 (by omega) k
  rw [n_ix] at this
  exact v76_0 this
theorem c80 {f : Int32 → Mm → Prop} {x y : Int32} {N : M2} (hd : 1 ≤ d) (hn : ix x ≤ 1000) (hT : TrK b S rem (ix x) N) (k : f (sm (fun j => bitV y (sdn b S rem j)) (ix x)) (FR b, N)) : WP d 107 80 0 [.ref 4, .int x, .int y, U, U] [] 107 (FR b, N) (rI f) := by
  obtain ⟨d, rfl⟩ := ex1 hd
  have l : ∀ m i, i + m = ix x → WP (d + 1) 107 80 5 [.ref 4, .int (nI (ix x)), .int y, .int (sm (fun j => bitV y (sdn b S rem j)) i), .int (nI i)] [] 107 (FR b, N) (rI f) := by
    intro m
    induction m with
    | zero =>
      intro i hi
      have : i = ix x := by omega
      subst this
      exact v80_5 (brK_t ((cnt_lt rfl (by omega) (Nat.le_refl _)).mpr rfl) k)
    | succ m ih =>
      intro i hi
      have k1 := nI_toInt (n := i) (by omega)
      refine v80_5 (brK_f (fun z => by have := (cnt_lt (n := i) (m := ix x) rfl (by omega) (by omega)).mp z; omega) (brK_f (fun z => by rw [i_le, show (1000 : Int32).toInt = 1000 from rfl] at z; omega) (iK_i (by rw [ix_n (by omega)]; omega) ?_)))
      have e : gI N 54 (ix (nI i)) = mun b S rem i := by rw [ix_n (by omega)]; exact hT.2 i (by omega)
      have nx := ih (i + 1) (by omega)
      rw [e, nI_1, mun_15]
      exact nx
  have := l (ix x) 0 (by omega)
  rw [n_ix] at this
  exact v80_0 this
theorem c81 {f : Int32 → Mm → Prop} {x y : Int32} {N : M2} (hd : 1 ≤ d) (hn : ix x ≤ 1000) (hT : TrK b S rem (ix x) N) (k : f (fstB (fun j => decide (sdn b S rem j = y)) (ix x) 0) (FR b, N)) : WP d 107 81 0 [.ref 4, .int x, .int y, U] [] 107 (FR b, N) (rI f) := by
  obtain ⟨d, rfl⟩ := ex1 hd
  have l : ∀ m i, i + m = ix x → f (fstB (fun j => decide (sdn b S rem j = y)) m i) (FR b, N) → WP (d + 1) 107 81 2 [.ref 4, .int (nI (ix x)), .int y, .int (nI i)] [] 107 (FR b, N) (rI f) := by
    intro m
    induction m with
    | zero =>
      intro i hi k
      have : i = ix x := by omega
      subst this
      exact v81_2 (brK_t ((cnt_lt rfl (by omega) (Nat.le_refl _)).mpr rfl) k)
    | succ m ih =>
      intro i hi k
      have k1 := nI_toInt (n := i) (by omega)
      refine v81_2 (brK_f (fun z => by have := (cnt_lt (n := i) (m := ix x) rfl (by omega) (by omega)).mp z; omega) (brK_f (fun z => by rw [i_le, show (1000 : Int32).toInt = 1000 from rfl] at z; omega) (iK_i (by rw [ix_n (by omega)]; omega) ?_)))
      have e : gI N 54 (ix (nI i)) = mun b S rem i := by rw [ix_n (by omega)]; exact hT.2 i (by omega)
      unfold fstB at k
      rw [e, nI_1, mun_15]
      refine brK_d (fun z => ?_) (fun z => ?_)
      · rw [z] at k; exact k
      · rw [z] at k; exact ih (i + 1) (by omega) k
  have := l (ix x) 0 (by omega) k
  rw [n_ix] at this
  exact v81_0 this
end SCAN
