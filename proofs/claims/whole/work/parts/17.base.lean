/-! NUMBERS -/
theorem ix_t (v : Int32) : (0 ≤ v.toInt ∧ v.toInt < 2147483648 ∧ (ix v : Int) = v.toInt) ∨ (v.toInt < 0 ∧ -2147483648 ≤ v.toInt ∧ (ix v : Int) = v.toInt + 4294967296) := by
  have h0 : v.toInt = v.toBitVec.toInt := rfl
  have h1 : ix v < 4294967296 := v.toBitVec.isLt
  have h2 : v.toBitVec.toNat = ix v := rfl
  rw [BitVec.toInt_eq_toNat_cond] at h0
  rw [h2] at h0
  by_cases h : 2 * ix v < 2 ^ 32
  · rw [if_pos h] at h0
    exact Or.inl ⟨by omega, by omega, by omega⟩
  · rw [if_neg h] at h0
    exact Or.inr ⟨by omega, by omega, by omega⟩
theorem ix_n {n : Nat} (h : n < 4294967296) : ix (nI n) = n := by
  show (BitVec.ofNat 32 n).toNat = n
  rw [BitVec.toNat_ofNat]
  omega
theorem n_ix (v : Int32) : nI (ix v) = v := ofNat_ix v
theorem ix_inj {v w : Int32} (h : ix v = ix w) : v = w := by rw [← n_ix v, ← n_ix w, h]
/-- v is one of the numbers below n -/
theorem lt_of {v : Int32} {n : Nat} (hn : n ≤ 2147483648) : ix v < n ↔ 0 ≤ v.toInt ∧ v.toInt < n := by
  have := ix_t v
  omega
theorem nI_of_lt {v : Int32} {n : Nat} (h : ix v < n) : ∃ j, j < n ∧ v = nI j := ⟨ix v, h, (n_ix v).symm⟩
/-- a condition as an int -/
def bI (p : Bool) : Int32 := bif p then 1 else 0
theorem bI_lt (p : Bool) : ix (bI p) < 2 := by cases p <;> decide
theorem brK_b {p : Bool} {A B : Prop} (h1 : p = false → A) (h2 : p = true → B) : brK (bI p = 0) A B := by
  cases p with
  | false => exact brK_t rfl (h1 rfl)
  | true => exact brK_f (by decide) (h2 rfl)
theorem i_lt {x y : Int32} : x < y ↔ x.toInt < y.toInt := Int32.lt_iff_toInt_lt
theorem i_le {x y : Int32} : x ≤ y ↔ x.toInt ≤ y.toInt := Int32.le_iff_toInt_le
theorem i_eq {x y : Int32} : x = y ↔ x.toInt = y.toInt := Int32.toInt_inj.symm
/-- the numbers from 0 on below n, as a condition -/
def rg (v : Int32) (n : Nat) : Bool := decide (ix v < n)
theorem rg_t {v : Int32} {n : Nat} : rg v n = true ↔ ix v < n := by unfold rg; simp
theorem rg_f {v : Int32} {n : Nat} : rg v n = false ↔ ¬ ix v < n := by unfold rg; simp
theorem iK_b {p : Bool} {P : Prop} (h : P) : iK (bI p) 2 P := iK_i (bI_lt p) h
/-! SMALL METHODS, THE CLASS -/
section SMALL
variable {d : Nat} {b : Bool} {M : M2} {f : Int32 → Mm → Prop}
/-- isThing -/
theorem c78 {v : Int32} (hd : 1 ≤ d) (k : f (bI (rg v 16)) (FR b, M)) : WP d 107 78 0 [.int v] [] 107 (FR b, M) (rI f) := by
  obtain ⟨d, rfl⟩ : ∃ e, d = e + 1 := ⟨d - 1, by omega⟩
  have := ix_t v
  refine v78_0 ⟨fun h => ?_, fun h => ⟨fun h2 => ?_, fun h2 => ?_⟩⟩
  · rw [show rg v 16 = false from rg_f.mpr (by simp only [i_lt] at h; have : (0 : Int32).toInt = 0 := rfl; omega)] at k; exact k
  · rw [show rg v 16 = false from rg_f.mpr (by simp only [i_lt, i_le] at h h2; have : (0 : Int32).toInt = 0 := rfl; have : (16 : Int32).toInt = 16 := rfl; omega)] at k; exact k
  · rw [show rg v 16 = true from rg_t.mpr (by simp only [i_lt, i_le] at h h2; have : (0 : Int32).toInt = 0 := rfl; have : (16 : Int32).toInt = 16 := rfl; omega)] at k; exact k
end SMALL
