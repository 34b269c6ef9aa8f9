/-! BITS OF A SET -/
def tb (n t : Nat) : Nat := bif n.testBit t then 1 else 0
def pop (n : Nat) : Nat := sumN (tb n) 16
theorem tb_1 (n t : Nat) : tb n t ≤ 1 := by unfold tb; cases n.testBit t <;> decide
theorem tb_ge {n k t : Nat} (h : n < 2 ^ k) (ht : k ≤ t) : tb n t = 0 := by
  unfold tb
  rw [Nat.testBit_lt_two_pow (Nat.lt_of_lt_of_le h (Nat.pow_le_pow_right (by decide) ht))]
  rfl
theorem tb_mul {a k t : Nat} (ht : t < k) : tb (2 ^ k * a) t = 0 := by
  have := Nat.testBit_two_pow_mul_add a (b := 0) (i := k) (Nat.two_pow_pos k) t
  rw [Nat.add_zero, if_pos ht, Nat.zero_testBit] at this
  unfold tb
  rw [this]; rfl
theorem tb_add {a b k t : Nat} (hb : b < 2 ^ k) : tb (2 ^ k * a + b) t = tb (2 ^ k * a) t + tb b t := by
  by_cases ht : t < k
  · rw [tb_mul ht, Nat.zero_add]
    unfold tb
    rw [Nat.testBit_two_pow_mul_add a hb, if_pos ht]
  · rw [tb_ge hb (by omega), Nat.add_zero]
    have := Nat.testBit_two_pow_mul_add a (b := 0) (i := k) (Nat.two_pow_pos k) t
    rw [Nat.add_zero, if_neg ht] at this
    unfold tb
    rw [Nat.testBit_two_pow_mul_add a hb, if_neg ht, this]
theorem tb_pow (k t : Nat) : tb (2 ^ k) t = bif Nat.beq t k then 1 else 0 := by
  unfold tb
  rw [Nat.testBit_two_pow]
  by_cases h : k = t
  · subst h; rw [decide_eq_true rfl, Nat.beq_refl]
  · rw [decide_eq_false h, show Nat.beq t k = false from by
      cases hb : Nat.beq t k with
      | false => rfl
      | true => exact absurd (Nat.eq_of_beq_eq_true hb).symm h]
theorem pop_add {a b k : Nat} (hb : b < 2 ^ k) : pop (2 ^ k * a + b) = pop (2 ^ k * a) + pop b := by
  unfold pop
  rw [← sumN_add]
  exact sumN_c 16 (fun t _ => tb_add hb)
theorem pop_pow {k : Nat} (h : k < 16) : pop (2 ^ k) = 1 := by
  unfold pop
  rw [sumN_one (c := k) 16 h (fun j _ hne => by
    rw [tb_pow, show Nat.beq j k = false from by
      cases hb : Nat.beq j k with
      | false => rfl
      | true => exact absurd (Nat.eq_of_beq_eq_true hb) hne]; rfl), tb_pow, Nat.beq_refl]
  rfl
theorem pop_le (n : Nat) : pop n ≤ 16 := by
  have := sumN_le (f := tb n) (g := fun _ => 1) 16 (fun j _ => tb_1 n j)
  rw [sumN_k] at this
  exact this
/-! as ints -/
theorem sh_l : ∀ n, n < 32 → ((nI n &&& 31).toBitVec.smod 32).toNat = n := by decide
theorem bitV_n {u t : Nat} (hu : u < 2 ^ 31) (ht : t < 31) : bitV (nI u) (nI t) = nI (tb u t) := by
  unfold bitV
  rw [pk_shrN hu _ t (sh_l t (by omega))]
  have h2 : u / 2 ^ t < 2 ^ 32 := Nat.lt_of_le_of_lt (Nat.div_le_self _ _) (by omega)
  rw [pk_andN h2 1 rfl]
  congr 1
  unfold tb
  rw [Nat.testBit_eq_decide_div_mod_eq]
  have : u / 2 ^ t % 2 = 0 ∨ u / 2 ^ t % 2 = 1 := by omega
  show u / 2 ^ t % 2 = _
  rcases this with h | h <;> rw [h] <;> rfl
theorem btN_n {u t : Nat} (hu : u < 2 ^ 31) (ht : t < 31) : btN (nI u) t = tb u t := by
  unfold btN
  rw [bitV_n hu ht, ix_n (by have := tb_1 u t; omega)]
theorem ix_or (x y : Int32) : ix (x ||| y) = ix x ||| ix y := by
  show (x.toBitVec ||| y.toBitVec).toNat = _
  rw [BitVec.toNat_or]
  rfl
theorem nI_or {a b : Nat} (ha : a < 2 ^ 32) (hb : b < 2 ^ 32) : nI a ||| nI b = nI (a ||| b) := by
  apply ix_inj
  rw [ix_or, ix_n ha, ix_n hb, ix_n (Nat.or_lt_two_pow ha hb)]
theorem sh_1 : ∀ k, k < 31 → (1 : Int32) <<< (nI k &&& 31) = nI (2 ^ k) := by decide
theorem or_bit {s k a : Nat} (hk : k < 16) (hs : s = 2 ^ (k + 1) * a) (h : s < 65536) : nI s ||| ((1 : Int32) <<< (nI k &&& 31)) = nI (s + 2 ^ k) := by
  have h2 : 2 ^ k < 2 ^ (k + 1) := Nat.pow_lt_pow_right (by decide) (by omega)
  have h3 : 2 ^ k ≤ 2 ^ 15 := Nat.pow_le_pow_right (by decide) (by omega)
  have h4 : (2 : Nat) ^ 15 = 32768 := by decide
  rw [sh_1 k (by omega), nI_or (by omega) (by omega)]
  congr 1
  subst hs
  exact (Nat.two_pow_add_eq_or_of_lt h2 a).symm
/-! bitCount and bitsOf -/
def bcI (x0 : Int32) : Int32 :=
  let a := x0 - (((x0.toUInt32 >>> ((1 : Int32).toUInt32 &&& Int32.toUInt32 31)).toInt32) &&& 1431655765)
  let c := (a &&& 858993459) + (((a.toUInt32 >>> ((2 : Int32).toUInt32 &&& Int32.toUInt32 31)).toInt32) &&& 858993459)
  let e := (c + ((c.toUInt32 >>> ((4 : Int32).toUInt32 &&& Int32.toUInt32 31)).toInt32)) &&& 252645135
  let g := e + ((e.toUInt32 >>> ((8 : Int32).toUInt32 &&& Int32.toUInt32 31)).toInt32)
  (g + ((g.toUInt32 >>> ((16 : Int32).toUInt32 &&& Int32.toUInt32 31)).toInt32)) &&& 63
def allB : Nat → (Nat → Bool) → Bool
  | 0, _ => true
  | n + 1, f => and (f n) (allB n f)
theorem allB_i {f : Nat → Bool} : ∀ n, allB n f = true → ∀ k, k < n → f k = true
  | 0, _, k, h => absurd h (by omega)
  | n + 1, h, k, hk => by
    unfold allB at h
    rw [Bool.and_eq_true] at h
    by_cases e : k = n
    · subst e; exact h.1
    · exact allB_i n h.2 k (by omega)
def fz (n : Nat) (k : Nat → Nat) : Nat := match n with
  | 0 => k 0
  | m + 1 => k (Nat.succ m)
theorem fz_e (n : Nat) (k : Nat → Nat) : fz n k = k n := by cases n <;> rfl
def bcN (x : Nat) : Nat :=
  fz (Nat.sub x (Nat.land (Nat.shiftRight x 1) 1431655765)) (fun a =>
  fz (Nat.add (Nat.land a 858993459) (Nat.land (Nat.shiftRight a 2) 858993459)) (fun c =>
  fz (Nat.land (Nat.add c (Nat.shiftRight c 4)) 252645135) (fun e =>
  fz (Nat.add e (Nat.shiftRight e 8)) (fun g => Nat.land (Nat.add g (Nat.shiftRight g 16)) 63))))
theorem bc_1 : allB 256 (fun h => allB 256 (fun l => Nat.beq (bcN (Nat.add (Nat.mul h 256) l)) (Nat.add (bcN h) (bcN l)))) = true := by decide +kernel
theorem bc_2 : ∀ h, h < 256 → bcN h = pop h := by decide +kernel
theorem bc_3 : ∀ h, h < 256 → pop (2 ^ 8 * h) = pop h := by decide +kernel
theorem bc_4 : allB 256 (fun h => allB 256 (fun l => or (Nat.beq (Nat.add (Nat.mul h 256) l) 0) (Nat.beq (Nat.succ (bcN (Nat.land (Nat.add (Nat.mul h 256) l) (Nat.sub (Nat.add (Nat.mul h 256) l) 1)))) (bcN (Nat.add (Nat.mul h 256) l))))) = true := by decide +kernel
theorem bcN_pop {n : Nat} (h : n < 65536) : bcN n = pop n := by
  have h1 := allB_i 256 (allB_i 256 bc_1 (n / 256) (by omega)) (n % 256) (by omega)
  have h2 := Nat.eq_of_beq_eq_true h1
  have e : Nat.add (Nat.mul (n / 256) 256) (n % 256) = n := by show n / 256 * 256 + n % 256 = n; omega
  rw [e, bc_2 _ (show n / 256 < 256 by omega), bc_2 _ (show n % 256 < 256 by omega)] at h2
  have h3 := pop_add (a := n / 256) (b := n % 256) (k := 8) (by show n % 256 < 256; omega)
  rw [bc_3 _ (by omega), show 2 ^ 8 * (n / 256) + n % 256 = n by omega] at h3
  rw [h2, h3]
  rfl
theorem pop_clr {n : Nat} (h : n < 65536) (h0 : n ≠ 0) : pop (n &&& (n - 1)) + 1 = pop n := by
  have h1 := allB_i 256 (allB_i 256 bc_4 (n / 256) (by omega)) (n % 256) (by omega)
  have e : Nat.add (Nat.mul (n / 256) 256) (n % 256) = n := by show n / 256 * 256 + n % 256 = n; omega
  rw [e] at h1
  have h2 : (Nat.beq n 0 || Nat.beq (Nat.succ (bcN (n &&& (n - 1)))) (bcN n)) = true := h1
  rw [Bool.or_eq_true] at h2
  rcases h2 with h2 | h2
  · exact absurd (Nat.eq_of_beq_eq_true h2) h0
  · have h3 := Nat.eq_of_beq_eq_true h2
    rw [bcN_pop h, bcN_pop (Nat.lt_of_le_of_lt Nat.and_le_left h)] at h3
    exact h3
theorem ix_and (x y : Int32) : ix (x &&& y) = ix x &&& ix y := by
  show (x.toBitVec &&& y.toBitVec).toNat = _
  rw [BitVec.toNat_and]
  rfl
theorem nI_and {a b : Nat} (ha : a < 2 ^ 32) (hb : b < 2 ^ 32) : nI a &&& nI b = nI (a &&& b) := by
  apply ix_inj
  rw [ix_and, ix_n ha, ix_n hb, ix_n (Nat.lt_of_le_of_lt Nat.and_le_left ha)]
theorem sh_u : ∀ n, n < 32 → (((nI n).toUInt32 &&& Int32.toUInt32 31).toBitVec % 32).toNat = n := by decide
theorem nI_ushr {n k : Nat} (hn : n < 2 ^ 32) (hk : k < 32) : ((nI n).toUInt32 >>> ((nI k).toUInt32 &&& Int32.toUInt32 31)).toInt32 = nI (n >>> k) := by
  rw [pk_ushrN hn _ k (sh_u k hk), Nat.shiftRight_eq_div_pow]
theorem bcI_n {n : Nat} (h : n < 65536) : bcI (nI n) = nI (bcN n) := by
  have a1 : n >>> 1 &&& 1431655765 ≤ n := Nat.le_trans Nat.and_le_left (Nat.shiftRight_le n 1)
  unfold bcI bcN
  simp only [fz_e]
  show (_ : Int32) = nI (((((((n - (n >>> 1 &&& 1431655765)) &&& 858993459) + ((n - (n >>> 1 &&& 1431655765)) >>> 2 &&& 858993459)) + (((n - (n >>> 1 &&& 1431655765)) &&& 858993459) + ((n - (n >>> 1 &&& 1431655765)) >>> 2 &&& 858993459)) >>> 4) &&& 252645135) + (((((n - (n >>> 1 &&& 1431655765)) &&& 858993459) + ((n - (n >>> 1 &&& 1431655765)) >>> 2 &&& 858993459)) + (((n - (n >>> 1 &&& 1431655765)) &&& 858993459) + ((n - (n >>> 1 &&& 1431655765)) >>> 2 &&& 858993459)) >>> 4) &&& 252645135) >>> 8 + ((((((n - (n >>> 1 &&& 1431655765)) &&& 858993459) + ((n - (n >>> 1 &&& 1431655765)) >>> 2 &&& 858993459)) + (((n - (n >>> 1 &&& 1431655765)) &&& 858993459) + ((n - (n >>> 1 &&& 1431655765)) >>> 2 &&& 858993459)) >>> 4) &&& 252645135) + (((((n - (n >>> 1 &&& 1431655765)) &&& 858993459) + ((n - (n >>> 1 &&& 1431655765)) >>> 2 &&& 858993459)) + (((n - (n >>> 1 &&& 1431655765)) &&& 858993459) + ((n - (n >>> 1 &&& 1431655765)) >>> 2 &&& 858993459)) >>> 4) &&& 252645135) >>> 8) >>> 16) &&& 63)
  have u1 := nI_ushr (n := n) (k := 1) (by omega) (by decide)
  have u1 : ((nI n).toUInt32 >>> ((1 : Int32).toUInt32 &&& Int32.toUInt32 31)).toInt32 = nI (n >>> 1) := u1
  have s1 : n >>> 1 ≤ n := Nat.shiftRight_le n 1
  rw [u1, show (1431655765 : Int32) = nI 1431655765 from rfl, nI_and (by omega) (by decide), nI_sub a1]
  generalize ha : n - (n >>> 1 &&& 1431655765) = a
  have a65 : a < 65536 := by omega
  have u2 : ((nI a).toUInt32 >>> ((2 : Int32).toUInt32 &&& Int32.toUInt32 31)).toInt32 = nI (a >>> 2) := nI_ushr (n := a) (k := 2) (by omega) (by decide)
  have s2 : a >>> 2 ≤ a := Nat.shiftRight_le a 2
  have c1 : a &&& 858993459 ≤ a := Nat.and_le_left
  have c2 : a >>> 2 &&& 858993459 ≤ a >>> 2 := Nat.and_le_left
  rw [u2, show (858993459 : Int32) = nI 858993459 from rfl, nI_and (by omega) (by decide), nI_and (by omega) (by decide), nI_add]
  generalize hc : (a &&& 858993459) + (a >>> 2 &&& 858993459) = c
  have u3 : ((nI c).toUInt32 >>> ((4 : Int32).toUInt32 &&& Int32.toUInt32 31)).toInt32 = nI (c >>> 4) := nI_ushr (n := c) (k := 4) (by omega) (by decide)
  have s3 : c >>> 4 ≤ c := Nat.shiftRight_le c 4
  have c3 : c + c >>> 4 &&& 252645135 ≤ c + c >>> 4 := Nat.and_le_left
  rw [u3, nI_add, show (252645135 : Int32) = nI 252645135 from rfl, nI_and (by omega) (by decide)]
  generalize he : c + c >>> 4 &&& 252645135 = e
  have u4 : ((nI e).toUInt32 >>> ((8 : Int32).toUInt32 &&& Int32.toUInt32 31)).toInt32 = nI (e >>> 8) := nI_ushr (n := e) (k := 8) (by omega) (by decide)
  have s4 : e >>> 8 ≤ e := Nat.shiftRight_le e 8
  rw [u4, nI_add]
  generalize hg : e + e >>> 8 = g
  have u5 : ((nI g).toUInt32 >>> ((16 : Int32).toUInt32 &&& Int32.toUInt32 31)).toInt32 = nI (g >>> 16) := nI_ushr (n := g) (k := 16) (by omega) (by decide)
  have s5 : g >>> 16 ≤ g := Nat.shiftRight_le g 16
  rw [u5, nI_add, show (63 : Int32) = nI 63 from rfl, nI_and (by omega) (by decide)]
section BC
variable {d : Nat} {b : Bool} {M : M2} {f : Int32 → Mm → Prop}
theorem c110 {n : Nat} (hd : 1 ≤ d) (hn : n < 65536) (k : f (nI (pop n)) (FR b, M)) : WP d 107 110 0 [.int (nI n)] [] 107 (FR b, M) (rI f) := by
  obtain ⟨d, rfl⟩ := ex1 hd
  have e : f (bcI (nI n)) (FR b, M) := by rw [bcI_n hn, bcN_pop hn]; exact k
  exact v110_0 e
theorem c250 {n : Nat} (hd : 1 ≤ d) (hn : n < 65536) (k : f (nI (pop n)) (FR b, M)) : WP d 107 250 0 [.int (nI n), U, U] [] 107 (FR b, M) (rI f) := by
  obtain ⟨d, rfl⟩ := ex1 hd
  have l : ∀ m left c (u0 : Value), pop left = m → left < 65536 → c + m = pop n → WP (d + 1) 107 250 4 [u0, .int (nI c), .int (nI left)] [] 107 (FR b, M) (rI f) := by
    intro m
    induction m with
    | zero =>
      intro left c u0 hp hl hc
      have : left = 0 := by
        by_cases e : left = 0
        · exact e
        · have := pop_clr hl e; omega
      subst this
      have : c = pop n := by omega
      subst this
      exact v250_4 (brK_t rfl k)
    | succ m ih =>
      intro left c u0 hp hl hc
      have h0 : left ≠ 0 := fun e => by rw [e, show pop 0 = 0 by decide] at hp; omega
      have hcl := pop_clr hl h0
      refine v250_4 (brK_f (nI_ne0 (by omega) (by omega)) ?_)
      have e1 : nI left - 1 = nI (left - 1) := nI_sub (b := 1) (by omega)
      rw [e1, nI_and (by omega) (by omega), nI_1]
      exact ih _ (c + 1) _ (by omega) (Nat.lt_of_le_of_lt Nat.and_le_left hl) (by omega)
  have := pop_le n
  exact v250_0 (l (pop n) n 0 _ rfl hn (by omega))
end BC
