/-! HOURS AHEAD, WHATEVER IS SAID -/
def agN (S : M2) : Nat → St
  | 0 => s0 S
  | k + 1 => agS S (agN S k)
def hgK (S : M2) (k : Nat) : Int32 := (agN S k).2.1
def hrK (S : M2) (k : Nat) : Int32 := (agN S k).2.2.2
theorem imn9_ix {x : Int32} (h : ix x < 2 ^ 31) : ix (imn 9 x) = min 9 (ix x) := by
  by_cases q : x ≤ 9
  · rw [imn9.1 q]
    rw [ix_leI h (by decide), show ix 9 = 9 from rfl] at q
    omega
  · rw [imn9.2 q]
    rw [ix_leI h (by decide), show ix 9 = 9 from rfl] at q
    show 9 = min 9 (ix x)
    omega
theorem hgK_ix {S : M2} (hH : HimW S 5) : ∀ k, ix (hgK S k) = min 9 (ix (gI S 5 1) + k * ix (gI S 5 4))
  | 0 => by
    have h1 : ix (gI S 5 1) < 10 := hH 1 (by decide)
    show ix (gI S 5 1) = _
    omega
  | k + 1 => by
    have ih := hgK_ix hH k
    have h4 : ix (gI S 5 4) < 4 := hH 4 (by decide)
    have e : ix (hgK S k + gI S 5 4) = ix (hgK S k) + ix (gI S 5 4) := ix_add (by omega)
    show ix (imn 9 (hgK S k + gI S 5 4)) = _
    rw [imn9_ix (by rw [e]; omega), e, ih, Nat.succ_mul]
    omega
theorem hrK_ix {S : M2} (hH : HimW S 5) : ∀ k, ix (hrK S k) = (ix (gI S 5 3) + k) % 24
  | 0 => by
    have h3 : ix (gI S 5 3) < 24 := hH 3 (by decide)
    show ix (gI S 5 3) = _
    omega
  | k + 1 => by
    have ih := hrK_ix hH k
    have e : ix (hrK S k + 1) = ix (hrK S k) + 1 := ix_add (y := 1) (by rw [show ix 1 = 1 from rfl]; omega)
    show ix (md (hrK S k + 1) 24) = _
    rw [md_ix (n := 24) (m := 24) rfl (by decide) (by rw [e]; omega), e, ih]
    omega
section AHEAD
variable {d : Nat} {b : Bool} {S : M2}
theorem c234 {f : Int32 → Mm → Prop} {k : Nat} {N : M2} (hd : 1 ≤ d) (hI : INV b S) (hA : agr (pC b) S N) (hk : k ≤ 1000) (kk : f (hgK S k) (FR b, N)) : WP d 107 234 0 [.ref 67, .int (nI k), U] [] 107 (FR b, N) (rI f) := by
  obtain ⟨d, rfl⟩ := ex1 hd
  have hH := hI.2.1.1
  have h1 : ix (gI S 5 1) < 10 := hH 1 (by decide)
  have h4 : ix (gI S 5 4) < 4 := hH 4 (by decide)
  have hg := hgK_ix hH k
  have hm : k * ix (gI S 5 4) ≤ 1000 * 3 := Nat.mul_le_mul hk (by omega)
  have e1 : ix (nI k * gI S 5 4) = k * ix (gI S 5 4) := by rw [ix_mul (by rw [ix_n (by omega)]; omega), ix_n (by omega)]
  have e2 : ix (gI S 5 1 + nI k * gI S 5 4) = ix (gI S 5 1) + k * ix (gI S 5 4) := by rw [ix_add (by rw [e1]; omega), e1]
  refine v234_0 ?_
  rw [e68 hI hA (by decide), e68 hI hA (by decide)]
  refine ⟨fun z => ?_, fun z => ?_⟩
  · rw [ix_leI (by rw [e2]; omega) (by decide), e2, show ix 9 = 9 from rfl] at z
    have : gI S 5 1 + nI k * gI S 5 4 = hgK S k := ix_inj (by rw [e2, hg]; omega)
    rw [this]
    exact kk
  · rw [ix_leI (by rw [e2]; omega) (by decide), e2, show ix 9 = 9 from rfl] at z
    have : (9 : Int32) = hgK S k := ix_inj (by rw [hg]; show 9 = _; omega)
    rw [this]
    exact kk
theorem c235 {f : Int32 → Mm → Prop} {k : Nat} {N : M2} (hd : 1 ≤ d) (hI : INV b S) (hA : agr (pC b) S N) (hk : k ≤ 1000) (kk : f (hrK S k) (FR b, N)) : WP d 107 235 0 [.ref 67, .int (nI k)] [] 107 (FR b, N) (rI f) := by
  obtain ⟨d, rfl⟩ := ex1 hd
  have hH := hI.2.1.1
  have h3 : ix (gI S 5 3) < 24 := hH 3 (by decide)
  have e : ix (gI S 5 3 + nI k) = ix (gI S 5 3) + k := by rw [ix_add (by rw [ix_n (by omega)]; omega), ix_n (by omega)]
  refine v235_0 ?_
  rw [e68 hI hA (by decide)]
  have : md (gI S 5 3 + nI k) 24 = hrK S k := ix_inj (by rw [md_ix (n := 24) (m := 24) rfl (by decide) (by rw [e]; omega), e, hrK_ix hH k])
  have t : (gI S 5 3 + nI k - (gI S 5 3 + nI k) / 24 * 24 : Int32) = hrK S k := this
  rw [t]
  exact kk
end AHEAD
/-! WAYS -/
def rcL (S : M2) (i : Nat) : Nat := phL S i (min (szS S i) 12) 0
def phB (S : M2) (i k : Nat) : Int32 := byV S i (nI k)
def laK (S : M2) (i : Nat) : Nat → Int32
  | 0 => gI S 5 2
  | k + 1 => phB S i k
def rcB (b : Bool) (S : M2) (i k : Nat) (m r : Int32) : Bool := decide (sayV b S (m, hgK S k, laK S i k, hrK S k) (tmV S) r = phB S i k)
def nmM (S : M2) (i k : Nat) (m r : Int32) : Int32 := md (m + phB S i k + r) 16
def wyN (b : Bool) (S : M2) (i : Nat) : Nat → Nat → Int32 → Nat
  | 0, _, _ => 1
  | n + 1, k, m => sumN (fun r => bif rcB b S i k m (nI r) then wyN b S i n (k + 1) (nmM S i k m (nI r)) else 0) 10
/-- ways from an hour on, with this remark in it -/
def wbN (b : Bool) (S : M2) (i k : Nat) (m r : Int32) : Nat := bif rcB b S i k m r then wyN b S i (rcL S i - (k + 1)) (k + 1) (nmM S i k m r) else 0
theorem wyN_le (b : Bool) (S : M2) (i : Nat) : ∀ n k m, wyN b S i n k m ≤ 10 ^ n
  | 0, _, _ => Nat.le_refl _
  | n + 1, k, m => by
    have := sumN_le (f := fun r => bif rcB b S i k m (nI r) then wyN b S i n (k + 1) (nmM S i k m (nI r)) else 0) (g := fun _ => 10 ^ n) 10 (fun r _ => by
      cases rcB b S i k m (nI r) with
      | true => exact wyN_le b S i n (k + 1) _
      | false => exact Nat.zero_le _)
    rw [sumN_k] at this
    rw [Nat.pow_succ, Nat.mul_comm]
    exact this
theorem rcL_ok (S : M2) (i : Nat) : rcL S i ≤ 12 ∧ rcL S i ≤ szS S i ∧ ∀ j, j < rcL S i → isTh S i j = true := by
  have := phL_ok (S := S) (i := i) (min (szS S i) 12) 0 (fun j hj => absurd hj (by omega))
  refine ⟨by unfold rcL; omega, by unfold rcL; omega, this.2.2⟩
theorem wyN_12 {b : Bool} {S : M2} {i n k : Nat} {m : Int32} (hn : n ≤ 12) : wyN b S i n k m ≤ 10 ^ 12 := Nat.le_trans (wyN_le b S i n k m) (Nat.pow_le_pow_right (by decide) hn)
theorem wbN_12 {b : Bool} {S : M2} {i k : Nat} {m r : Int32} : wbN b S i k m r ≤ 10 ^ 12 := by
  unfold wbN
  have := (rcL_ok S i).1
  cases rcB b S i k m r with
  | true => exact wyN_12 (by omega)
  | false => exact Nat.zero_le _
theorem wy_s {b : Bool} {S : M2} {i k : Nat} {m : Int32} (hk : k < rcL S i) : wyN b S i (rcL S i - k) k m = sumN (fun r => wbN b S i k m (nI r)) 10 := by
  have e : rcL S i - k = (rcL S i - (k + 1)) + 1 := by omega
  rw [e]
  rfl
theorem nmM_lt {S : M2} {i k : Nat} {m r : Int32} (hm : ix m < 16) (hp : isTh S i k = true) (hr : ix r < 10) : ix (nmM S i k m r) < 16 := by
  have hp := rg_tt hp
  have hp : ix (phB S i k) < 16 := hp
  have a1 : ix (m + phB S i k) = ix m + ix (phB S i k) := ix_add (by omega)
  have a2 : ix (m + phB S i k + r) = ix m + ix (phB S i k) + ix r := by rw [ix_add (by rw [a1]; omega), a1]
  unfold nmM
  rw [md_ix (n := 16) (m := 16) rfl (by decide) (by rw [a2]; omega)]
  omega
theorem lN_t {n : Nat} (h : n < 2 ^ 63) : (lN n).toInt = n := Int64.toInt_ofNat_of_lt h
theorem lg_0 {n : Nat} (h : n < 2 ^ 63) : (lg_cmp (lN n) 0 = 0 ↔ n = 0) ∧ (lg_cmp (lN n) 0 ≤ 0 ↔ n = 0) := by
  have h1 := lN_t h
  have h0 : (0 : Int64).toInt = 0 := rfl
  unfold lg_cmp
  by_cases e : n = 0
  · subst e
    decide
  · have g : lN n > 0 := by
      show (0 : Int64) < lN n
      rw [Int64.lt_iff_toInt_lt, h1, h0]
      omega
    rw [if_pos g]
    exact ⟨⟨fun q => absurd q (by decide), fun q => absurd q e⟩, ⟨fun q => absurd q (by decide), fun q => absurd q e⟩⟩
theorem p12 : (10 : Nat) ^ 12 < 2 ^ 63 := by decide
def smL (g : Nat → Nat) : Nat → Int64
  | 0 => 0
  | n + 1 => smL g n + lN (g n)
theorem smL_e (g : Nat → Nat) : ∀ n, smL g n = lN (sumN g n)
  | 0 => rfl
  | n + 1 => by
    show smL g n + lN (g n) = _
    rw [smL_e g n, lN_add]
    rfl
