/-! ===== lN n to 2^64: shifts, and, or, masks, one bit ===== -/
theorem wb_tb (n : Nat) : (lN n).toBitVec = BitVec.ofNat 64 n := rfl
theorem wb_inj {a b : Int64} (h : a.toBitVec = b.toBitVec) : a = b := Int64.toBitVec_inj.mp h
theorem wb_tn {n : Nat} (h : n < 2 ^ 64) : (lN n).toBitVec.toNat = n := by rw [wb_tb, BitVec.toNat_ofNat, Nat.mod_eq_of_lt h]
theorem wb_of (x : Int64) : ∃ n, n < 2 ^ 64 ∧ x = lN n := ⟨x.toBitVec.toNat, x.toBitVec.isLt, wb_inj (by rw [wb_tb]; simp)⟩
theorem wb_of32 (x : Int32) : ∃ n, n < 2 ^ 32 ∧ x = nI n := ⟨x.toBitVec.toNat, x.toBitVec.isLt, Int32.toBitVec_inj.mp (by show _ = BitVec.ofNat 32 _; simp)⟩
theorem wb_c : ∀ k, k < 64 → ((nI k).toInt64 &&& 63) = lN k := by decide +kernel
theorem wb_cu : ∀ k, k < 64 → ((nI k).toInt64.toUInt64 &&& Int64.toUInt64 63) = UInt64.ofNat k := by decide +kernel
theorem wb_sm : ∀ k, k < 64 → (BitVec.ofNat 64 k).smod 64 = BitVec.ofNat 64 k := by decide +kernel
theorem wb_pw {a b : Nat} (h : a ≤ b) : 2 ^ b = 2 ^ a * 2 ^ (b - a) := by rw [← Nat.pow_add]; congr 1; omega
theorem wb_lt2 {a b : Nat} (h : a < b) : 2 ^ a < 2 ^ b := Nat.pow_lt_pow_right (by decide) h
theorem wb_mod (n : Nat) : lN n = lN (n % 2 ^ 64) := wb_inj (by rw [wb_tb, wb_tb]; apply BitVec.eq_of_toNat_eq; rw [BitVec.toNat_ofNat, BitVec.toNat_ofNat, Nat.mod_mod])
theorem wb_shr {n k : Nat} (hn : n < 2 ^ 64) (hk : k < 64) : ((lN n).toUInt64 >>> ((nI k).toInt64.toUInt64 &&& Int64.toUInt64 63)).toInt64 = lN (n / 2 ^ k) := by
  rw [wb_cu k hk]
  apply wb_inj
  apply BitVec.eq_of_toNat_eq
  show ((lN n).toUInt64 >>> UInt64.ofNat k).toNat = (BitVec.ofNat 64 _).toNat
  have h1 : (UInt64.ofNat k).toNat = k := by
    show (BitVec.ofNat 64 k).toNat = k
    rw [BitVec.toNat_ofNat, Nat.mod_eq_of_lt (by omega)]
  have h2 : (lN n).toUInt64.toNat = n := wb_tn hn
  rw [UInt64.toNat_shiftRight, h1, h2, Nat.mod_eq_of_lt hk, Nat.shiftRight_eq_div_pow, BitVec.toNat_ofNat, Nat.mod_eq_of_lt (Nat.lt_of_le_of_lt (Nat.div_le_self _ _) hn)]
theorem wb_shl (n : Nat) {k : Nat} (hk : k < 64) : lN n <<< ((nI k).toInt64 &&& 63) = lN (n * 2 ^ k) := by
  rw [wb_c k hk]
  apply wb_inj
  rw [Int64.toBitVec_shiftLeft, wb_tb, wb_tb, wb_tb, wb_sm k hk]
  apply BitVec.eq_of_toNat_eq
  rw [BitVec.shiftLeft_eq', BitVec.toNat_shiftLeft, BitVec.toNat_ofNat, BitVec.toNat_ofNat, BitVec.toNat_ofNat, Nat.mod_eq_of_lt (show k < 2 ^ 64 by omega), Nat.shiftLeft_eq, Nat.mul_mod, Nat.mod_mod, ← Nat.mul_mod]
theorem wb_and {a b : Nat} (ha : a < 2 ^ 64) (hb : b < 2 ^ 64) : lN a &&& lN b = lN (a &&& b) := by
  apply wb_inj
  rw [Int64.toBitVec_and, wb_tb, wb_tb, wb_tb]
  apply BitVec.eq_of_toNat_eq
  rw [BitVec.toNat_and, BitVec.toNat_ofNat, BitVec.toNat_ofNat, BitVec.toNat_ofNat, Nat.mod_eq_of_lt ha, Nat.mod_eq_of_lt hb, Nat.mod_eq_of_lt (Nat.and_lt_two_pow _ hb)]
theorem wb_or {a b : Nat} (ha : a < 2 ^ 64) (hb : b < 2 ^ 64) : lN a ||| lN b = lN (a ||| b) := by
  apply wb_inj
  rw [Int64.toBitVec_or, wb_tb, wb_tb, wb_tb]
  apply BitVec.eq_of_toNat_eq
  rw [BitVec.toNat_or, BitVec.toNat_ofNat, BitVec.toNat_ofNat, BitVec.toNat_ofNat, Nat.mod_eq_of_lt ha, Nat.mod_eq_of_lt hb, Nat.mod_eq_of_lt (Nat.or_lt_two_pow ha hb)]
theorem wb_mask {n k : Nat} (hn : n < 2 ^ 64) (hk : k < 64) : lN n &&& lN (2 ^ k - 1) = lN (n % 2 ^ k) := by
  rw [wb_and hn (by have := wb_lt2 hk; omega), Nat.and_two_pow_sub_one_eq_mod]
theorem wb_a1 {n : Nat} (hn : n < 2 ^ 64) : lN n &&& 1 = lN (n % 2) := wb_mask (k := 1) hn (by decide)
theorem wb_bit {n k : Nat} (hn : n < 2 ^ 64) (hk : k < 64) : ((lN n).toUInt64 >>> ((nI k).toInt64.toUInt64 &&& Int64.toUInt64 63)).toInt64 &&& 1 = lN (n / 2 ^ k % 2) := by
  rw [wb_shr hn hk, wb_a1 (Nat.lt_of_le_of_lt (Nat.div_le_self _ _) hn)]
/-! four bits of a long -/
theorem m4n {r : Nat} : (4 * nI r : Int32) = nI (4 * r) := nI_mul 4 r
theorem nbL_n {n r : Nat} (hn : n < 2 ^ 64) (hr : r < 10) : nbL (lN n) r = nI (n / 2 ^ (4 * r) % 2 ^ 4) := by
  unfold nbL
  rw [m4n, wb_shr hn (by omega), lN_i, pk_and _ 4 rfl]
  congr 1
  show ix (nI (n / 2 ^ (4 * r))) % 2 ^ 4 = _
  show (BitVec.ofNat 32 (n / 2 ^ (4 * r))).toNat % 2 ^ 4 = _
  rw [BitVec.toNat_ofNat, Nat.mod_mod_of_dvd _ (by decide)]
theorem msk_e : ∀ r, r < 10 → ((15 <<< ((4 * nI r).toInt64 &&& 63)) ^^^ (-1) : Int64) = lN (2 ^ 64 - 1 - 15 * 2 ^ (4 * r)) := by decide
theorem msk_b : ∀ r, r < 10 → ∀ j, j < 40 → (2 ^ 64 - 1 - 15 * 2 ^ (4 * r)).testBit j = !(decide (4 * r ≤ j) && decide (j < 4 * r + 4)) := by decide
theorem stL_n {n r v : Nat} (hn : n < 2 ^ 64) (hr : r < 10) (hv : v < 16) : stL (lN n) r (nI v) = lN ((n &&& (2 ^ 64 - 1 - 15 * 2 ^ (4 * r))) ||| v * 2 ^ (4 * r)) := by
  have hp : 2 ^ (4 * r) ≤ 2 ^ 36 := Nat.pow_le_pow_right (by decide) (by omega)
  have h36 : (2 : Nat) ^ 36 = 68719476736 := by decide
  have h64 : (2 : Nat) ^ 64 = 18446744073709551616 := by decide
  have hb : v * 2 ^ (4 * r) < 2 ^ 64 := by
    have : v * 2 ^ (4 * r) ≤ 16 * 2 ^ 36 := Nat.mul_le_mul (by omega) hp
    omega
  unfold stL
  rw [msk_e r hr, wb_and hn (by omega), nI_l (by omega), m4n, wb_shl v (by omega), wb_or (Nat.lt_of_le_of_lt Nat.and_le_left hn) hb]
theorem nib_bit {n r i : Nat} : (n / 2 ^ (4 * r) % 2 ^ 4).testBit i = (decide (i < 4) && n.testBit (4 * r + i)) := by
  rw [Nat.testBit_mod_two_pow, Nat.testBit_div_two_pow, Nat.add_comm]
theorem st_bit {n r v j : Nat} (hr : r < 10) (hj : j < 40) : ((n &&& (2 ^ 64 - 1 - 15 * 2 ^ (4 * r))) ||| v * 2 ^ (4 * r)).testBit j = ((n.testBit j && !(decide (4 * r ≤ j) && decide (j < 4 * r + 4))) || (decide (4 * r ≤ j) && v.testBit (j - 4 * r))) := by
  have e := Nat.testBit_two_pow_mul_add v (b := 0) (i := 4 * r) (Nat.two_pow_pos _) j
  rw [Nat.add_zero, Nat.zero_testBit] at e
  rw [Nat.testBit_or, Nat.testBit_and, msk_b r hr j hj, Nat.mul_comm v, e]
  by_cases h : j < 4 * r
  · rw [if_pos h, decide_eq_false (show ¬ 4 * r ≤ j by omega)]; rfl
  · rw [if_neg h, decide_eq_true (show 4 * r ≤ j by omega)]; rfl
theorem st_lt {n r v : Nat} (hn : n < 2 ^ 64) (hr : r < 10) (hv : v < 16) : ((n &&& (2 ^ 64 - 1 - 15 * 2 ^ (4 * r))) ||| v * 2 ^ (4 * r)) < 2 ^ 64 := by
  have hp : 2 ^ (4 * r) ≤ 2 ^ 36 := Nat.pow_le_pow_right (by decide) (by omega)
  have h36 : (2 : Nat) ^ 36 = 68719476736 := by decide
  have h64 : (2 : Nat) ^ 64 = 18446744073709551616 := by decide
  refine Nat.or_lt_two_pow (Nat.lt_of_le_of_lt Nat.and_le_left hn) ?_
  have : v * 2 ^ (4 * r) ≤ 16 * 2 ^ 36 := Nat.mul_le_mul (by omega) hp
  omega
theorem nb_st_s {L : Int64} {r v : Nat} (hr : r < 10) (hv : v < 16) : nbL (stL L r (nI v)) r = nI v := by
  obtain ⟨n, hn, rfl⟩ := wb_of L
  rw [stL_n hn hr hv, nbL_n (st_lt hn hr hv) hr]
  congr 1
  apply Nat.eq_of_testBit_eq
  intro i
  rw [nib_bit]
  by_cases h : i < 4
  · rw [decide_eq_true h, st_bit hr (by omega), decide_eq_true (show 4 * r ≤ 4 * r + i by omega), decide_eq_true (show 4 * r + i < 4 * r + 4 by omega), show 4 * r + i - 4 * r = i by omega]
    simp
  · rw [decide_eq_false h, Nat.testBit_lt_two_pow (Nat.lt_of_lt_of_le hv (show 2 ^ 4 ≤ 2 ^ i from Nat.pow_le_pow_right (by decide) (by omega)))]
    rfl
theorem nb_st_o {L : Int64} {r r' v : Nat} (hr : r < 10) (hr' : r' < 10) (hne : r' ≠ r) (hv : v < 16) : nbL (stL L r (nI v)) r' = nbL L r' := by
  obtain ⟨n, hn, rfl⟩ := wb_of L
  rw [stL_n hn hr hv, nbL_n (st_lt hn hr hv) hr', nbL_n hn hr']
  congr 1
  apply Nat.eq_of_testBit_eq
  intro i
  rw [nib_bit, nib_bit]
  by_cases h : i < 4
  · rw [decide_eq_true h, st_bit hr (by omega)]
    by_cases q : 4 * r ≤ 4 * r' + i
    · rw [decide_eq_true q, decide_eq_false (show ¬ 4 * r' + i < 4 * r + 4 by omega), Nat.testBit_lt_two_pow (Nat.lt_of_lt_of_le hv (show 2 ^ 4 ≤ 2 ^ (4 * r' + i - 4 * r) from Nat.pow_le_pow_right (by decide) (by omega)))]
      simp
    · rw [decide_eq_false q]
      simp
  · rw [decide_eq_false h]
    rfl
