/-! HOW IT BEGINS -/
section START
variable {M : Mm}
def iX (M : Mm) : Mm := i2_6 (nw 6 (ur 4 0 5 (i2_5 (nw 5 (nw 4 M)))))
theorem sp_I {c r k : Nat} {v : Int32} {M : Mm} : sp c r k v M = (M.1, sI M.2 r k v) := by
  unfold sp sP
  cases (Nat.beq c 2 || (Nat.beq c 3 || Nat.beq c 9)) with
  | false => rfl
  | true => show (M.1, sF M.2 r k v) = _; rw [sF_eq]
def i2_44q (M : Mm) : Mm := (M.1, sI (sI (sI (sI M.2 44 3 6) 44 4 1) 44 5 5) 44 6 7)
theorem i2_44e (M : Mm) : i2_44 M = i2_44q M := by unfold i2_44; rw [sp_I, sp_I, sp_I, sp_I]; rfl
def i2_49q (M : Mm) : Mm := (M.1, sI (sI (sI (sI M.2 49 3 6) 49 4 1) 49 5 5) 49 6 7)
theorem i2_49e (M : Mm) : i2_49 M = i2_49q M := by unfold i2_49; rw [sp_I, sp_I, sp_I, sp_I]; rfl
def i10_43q (M : Mm) : Mm := ur 43 3 47 (nw 47 (ur 43 2 46 (nw 46 (ur 43 1 45 (nw 45 (ur 43 0 44 (i2_44q (nw 44 M))))))))
theorem i10_43e (M : Mm) : i10_43 M = i10_43q M := by unfold i10_43 i10_43q; rw [i2_44e]
def i11_48q (M : Mm) : Mm := ur 48 3 52 (nw 52 (ur 48 2 51 (nw 51 (ur 48 1 50 (nw 50 (ur 48 0 49 (i2_49q (nw 49 M))))))))
theorem i11_48e (M : Mm) : i11_48 M = i11_48q M := by unfold i11_48 i11_48q; rw [i2_49e]
def iRo (X : Mm) : Mm := i178_67 (nw 67 (ur 53 5 65 (i12_65 (nw 65 (ur 53 4 63 (i12_63 (nw 63 (ur 53 3 61 (i12_61 (nw 61 (ur 53 2 59 (i12_59 (nw 59 (ur 53 1 57 (i12_57 (nw 57 (ur 53 0 55 (i12_55 (nw 55 (ur 4 11 54 (nw 54 (ur 4 10 53 (nw 53 (ur 4 9 48 (i11_48 (nw 48 (ur 4 8 43 (i10_43 (nw 43 (ur 4 7 40 (i9_40 (nw 40 (ur 4 6 35 (i8_35 (nw 35 (ur 4 5 33 (i7_33 (nw 33 (ur 4 4 26 (i6_26 (nw 26 (ur 4 3 18 (i5_18 (nw 18 (ur 4 2 7 (i3_7 (nw 7 (ur 4 1 6 X))))))))))))))))))))))))))))))))))))))))))))))))
def iR (X : Mm) : Mm := i178_67 (nw 67 (ur 53 5 65 (i12_65 (nw 65 (ur 53 4 63 (i12_63 (nw 63 (ur 53 3 61 (i12_61 (nw 61 (ur 53 2 59 (i12_59 (nw 59 (ur 53 1 57 (i12_57 (nw 57 (ur 53 0 55 (i12_55 (nw 55 (ur 4 11 54 (nw 54 (ur 4 10 53 (nw 53 (ur 4 9 48 (i11_48q (nw 48 (ur 4 8 43 (i10_43q (nw 43 (ur 4 7 40 (i9_40 (nw 40 (ur 4 6 35 (i8_35 (nw 35 (ur 4 5 33 (i7_33 (nw 33 (ur 4 4 26 (i6_26 (nw 26 (ur 4 3 18 (i5_18 (nw 18 (ur 4 2 7 (i3_7 (nw 7 (ur 4 1 6 X))))))))))))))))))))))))))))))))))))))))))))))))
theorem iRo_e (X : Mm) : iRo X = iR X := by unfold iRo iR; rw [i10_43e, i11_48e]
theorem iAll_e (M : Mm) : iAll M = iR (iX M) := (rfl : iAll M = iRo (iX M)).trans (iRo_e _)
theorem i2_5e (M : Mm) : i2_5 M = (M.1, sI (sI (sI (sI M.2 5 3 6) 5 4 1) 5 5 5) 5 6 7) := by unfold i2_5; rw [sp_I, sp_I, sp_I, sp_I]
theorem i2_6e (M : Mm) : i2_6 M = (M.1, sI (sI (sI (sI M.2 6 3 6) 6 4 1) 6 5 5) 6 6 7) := by unfold i2_6; rw [sp_I, sp_I, sp_I, sp_I]
theorem iX_e (M : Mm) : (iX M).2 = sI (sI (sI (sI (nw 6 (ur 4 0 5 ((nw 5 (nw 4 M)).1, sI (sI (sI (sI (nw 5 (nw 4 M)).2 5 3 6) 5 4 1) 5 5 5) 5 6 7))).2 6 3 6) 6 4 1) 6 5 5) 6 6 7 := by unfold iX; rw [i2_6e, i2_5e]
theorem zi7 (j : Nat) : gI (iAll M).2 7 j = 0 := by rw [iAll_e]; exact (rfl : gI (iR (iX M)).2 7 j = 0)
theorem zi8 (j : Nat) : gI (iAll M).2 8 j = 0 := by rw [iAll_e]; exact (rfl : gI (iR (iX M)).2 8 j = 0)
theorem zi9 (j : Nat) : gI (iAll M).2 9 j = 0 := by rw [iAll_e]; exact (rfl : gI (iR (iX M)).2 9 j = 0)
theorem zi18 (j : Nat) : gI (iAll M).2 18 j = 0 := by rw [iAll_e]; exact (rfl : gI (iR (iX M)).2 18 j = 0)
theorem zi19 (j : Nat) : gI (iAll M).2 19 j = 0 := by rw [iAll_e]; exact (rfl : gI (iR (iX M)).2 19 j = 0)
theorem zi20 (j : Nat) : gI (iAll M).2 20 j = 0 := by rw [iAll_e]; exact (rfl : gI (iR (iX M)).2 20 j = 0)
theorem zi21 (j : Nat) : gI (iAll M).2 21 j = 0 := by rw [iAll_e]; exact (rfl : gI (iR (iX M)).2 21 j = 0)
theorem zi22 (j : Nat) : gI (iAll M).2 22 j = 0 := by rw [iAll_e]; exact (rfl : gI (iR (iX M)).2 22 j = 0)
theorem zi26 (j : Nat) : gI (iAll M).2 26 j = 0 := by rw [iAll_e]; exact (rfl : gI (iR (iX M)).2 26 j = 0)
theorem zi27 (j : Nat) : gI (iAll M).2 27 j = 0 := by rw [iAll_e]; exact (rfl : gI (iR (iX M)).2 27 j = 0)
theorem zi33 (j : Nat) : gI (iAll M).2 33 j = 0 := by rw [iAll_e]; exact (rfl : gI (iR (iX M)).2 33 j = 0)
theorem zi34 (j : Nat) : gI (iAll M).2 34 j = 0 := by rw [iAll_e]; exact (rfl : gI (iR (iX M)).2 34 j = 0)
theorem zi35 (j : Nat) : gI (iAll M).2 35 j = 0 := by rw [iAll_e]; exact (rfl : gI (iR (iX M)).2 35 j = 0)
theorem zi36 (j : Nat) : gI (iAll M).2 36 j = 0 := by rw [iAll_e]; exact (rfl : gI (iR (iX M)).2 36 j = 0)
theorem zi37 (j : Nat) : gI (iAll M).2 37 j = 0 := by rw [iAll_e]; exact (rfl : gI (iR (iX M)).2 37 j = 0)
theorem zi38 (j : Nat) : gI (iAll M).2 38 j = 0 := by rw [iAll_e]; exact (rfl : gI (iR (iX M)).2 38 j = 0)
theorem zi39 (j : Nat) : gI (iAll M).2 39 j = 0 := by rw [iAll_e]; exact (rfl : gI (iR (iX M)).2 39 j = 0)
theorem zi40 (j : Nat) : gI (iAll M).2 40 j = 0 := by rw [iAll_e]; exact (rfl : gI (iR (iX M)).2 40 j = 0)
theorem zi41 (j : Nat) : gI (iAll M).2 41 j = 0 := by rw [iAll_e]; exact (rfl : gI (iR (iX M)).2 41 j = 0)
theorem zi42 (j : Nat) : gI (iAll M).2 42 j = 0 := by rw [iAll_e]; exact (rfl : gI (iR (iX M)).2 42 j = 0)
theorem zi55 (j : Nat) : gI (iAll M).2 55 j = 0 := by rw [iAll_e]; exact (rfl : gI (iR (iX M)).2 55 j = 0)
theorem zi57 (j : Nat) : gI (iAll M).2 57 j = 0 := by rw [iAll_e]; exact (rfl : gI (iR (iX M)).2 57 j = 0)
theorem zi59 (j : Nat) : gI (iAll M).2 59 j = 0 := by rw [iAll_e]; exact (rfl : gI (iR (iX M)).2 59 j = 0)
theorem zi61 (j : Nat) : gI (iAll M).2 61 j = 0 := by rw [iAll_e]; exact (rfl : gI (iR (iX M)).2 61 j = 0)
theorem zi63 (j : Nat) : gI (iAll M).2 63 j = 0 := by rw [iAll_e]; exact (rfl : gI (iR (iX M)).2 63 j = 0)
theorem zi65 (j : Nat) : gI (iAll M).2 65 j = 0 := by rw [iAll_e]; exact (rfl : gI (iR (iX M)).2 65 j = 0)
theorem zi67 (j : Nat) : gI (iAll M).2 67 j = 0 := by rw [iAll_e]; exact (rfl : gI (iR (iX M)).2 67 j = 0)
theorem zi69 (j : Nat) : gI (iAll M).2 69 j = 0 := by rw [iAll_e]; exact (rfl : gI (iR (iX M)).2 69 j = 0)
theorem zi70 (j : Nat) : gI (iAll M).2 70 j = 0 := by rw [iAll_e]; exact (rfl : gI (iR (iX M)).2 70 j = 0)
theorem zi71 (j : Nat) : gI (iAll M).2 71 j = 0 := by rw [iAll_e]; exact (rfl : gI (iR (iX M)).2 71 j = 0)
theorem zi72 (j : Nat) : gI (iAll M).2 72 j = 0 := by rw [iAll_e]; exact (rfl : gI (iR (iX M)).2 72 j = 0)
theorem zi73 (j : Nat) : gI (iAll M).2 73 j = 0 := by rw [iAll_e]; exact (rfl : gI (iR (iX M)).2 73 j = 0)
theorem zi74 (j : Nat) : gI (iAll M).2 74 j = 0 := by rw [iAll_e]; exact (rfl : gI (iR (iX M)).2 74 j = 0)
theorem zi75 (j : Nat) : gI (iAll M).2 75 j = 0 := by rw [iAll_e]; exact (rfl : gI (iR (iX M)).2 75 j = 0)
theorem zi76 (j : Nat) : gI (iAll M).2 76 j = 0 := by rw [iAll_e]; exact (rfl : gI (iR (iX M)).2 76 j = 0)
theorem zi77 (j : Nat) : gI (iAll M).2 77 j = 0 := by rw [iAll_e]; exact (rfl : gI (iR (iX M)).2 77 j = 0)
theorem zi78 (j : Nat) : gI (iAll M).2 78 j = 0 := by rw [iAll_e]; exact (rfl : gI (iR (iX M)).2 78 j = 0)
theorem zi81 (j : Nat) : gI (iAll M).2 81 j = 0 := by rw [iAll_e]; exact (rfl : gI (iR (iX M)).2 81 j = 0)
theorem zi98 (j : Nat) : gI (iAll M).2 98 j = 0 := by rw [iAll_e]; exact (rfl : gI (iR (iX M)).2 98 j = 0)
theorem zi99 (j : Nat) : gI (iAll M).2 99 j = 0 := by rw [iAll_e]; exact (rfl : gI (iR (iX M)).2 99 j = 0)
theorem zi100 (j : Nat) : gI (iAll M).2 100 j = 0 := by rw [iAll_e]; exact (rfl : gI (iR (iX M)).2 100 j = 0)
theorem zi101 (j : Nat) : gI (iAll M).2 101 j = 0 := by rw [iAll_e]; exact (rfl : gI (iR (iX M)).2 101 j = 0)
theorem zi102 (j : Nat) : gI (iAll M).2 102 j = 0 := by rw [iAll_e]; exact (rfl : gI (iR (iX M)).2 102 j = 0)
theorem zl56 (j : Nat) : gL (iAll M).2 56 j = 0 := by rw [iAll_e]; exact (rfl : gL (iR (iX M)).2 56 j = 0)
theorem zl58 (j : Nat) : gL (iAll M).2 58 j = 0 := by rw [iAll_e]; exact (rfl : gL (iR (iX M)).2 58 j = 0)
theorem zl60 (j : Nat) : gL (iAll M).2 60 j = 0 := by rw [iAll_e]; exact (rfl : gL (iR (iX M)).2 60 j = 0)
theorem zl62 (j : Nat) : gL (iAll M).2 62 j = 0 := by rw [iAll_e]; exact (rfl : gL (iR (iX M)).2 62 j = 0)
theorem zl64 (j : Nat) : gL (iAll M).2 64 j = 0 := by rw [iAll_e]; exact (rfl : gL (iR (iX M)).2 64 j = 0)
theorem zl66 (j : Nat) : gL (iAll M).2 66 j = 0 := by rw [iAll_e]; exact (rfl : gL (iR (iX M)).2 66 j = 0)
theorem zl105 (j : Nat) : gL (iAll M).2 105 j = 0 := by rw [iAll_e]; exact (rfl : gL (iR (iX M)).2 105 j = 0)
theorem zx0 (X : Mm) (j : Nat) : gI (iR X).2 0 j = gI X.2 0 j := rfl
theorem zx1 (X : Mm) (j : Nat) : gI (iR X).2 1 j = gI X.2 1 j := rfl
theorem zx2 (X : Mm) (j : Nat) : gI (iR X).2 2 j = gI X.2 2 j := rfl
theorem zx3 (X : Mm) (j : Nat) : gI (iR X).2 3 j = gI X.2 3 j := rfl
theorem zx5 (X : Mm) (j : Nat) : gI (iR X).2 5 j = gI X.2 5 j := rfl
theorem zk0 (j : Nat) : gI (iAll M).2 0 j = gI M.2 0 j := by rw [iAll_e, zx0, iX_e]; rfl
theorem zk1 (j : Nat) : gI (iAll M).2 1 j = gI M.2 1 j := by rw [iAll_e, zx1, iX_e]; rfl
theorem zk2 (j : Nat) : gI (iAll M).2 2 j = gI M.2 2 j := by rw [iAll_e, zx2, iX_e]; rfl
theorem zk3 (j : Nat) : gI (iAll M).2 3 j = gI M.2 3 j := by rw [iAll_e, zx3, iX_e]; rfl
theorem zh5_0 : gI (iAll M).2 5 0 = 0 := by rw [iAll_e, zx5, iX_e]; rfl
theorem zh68_0 : gI (iAll M).2 68 0 = 0 := by rw [iAll_e]; exact (rfl : gI (iR (iX M)).2 68 0 = 0)
theorem zh5_1 : gI (iAll M).2 5 1 = 0 := by rw [iAll_e, zx5, iX_e]; rfl
theorem zh68_1 : gI (iAll M).2 68 1 = 0 := by rw [iAll_e]; exact (rfl : gI (iR (iX M)).2 68 1 = 0)
theorem zh5_2 : gI (iAll M).2 5 2 = 0 := by rw [iAll_e, zx5, iX_e]; rfl
theorem zh68_2 : gI (iAll M).2 68 2 = 0 := by rw [iAll_e]; exact (rfl : gI (iR (iX M)).2 68 2 = 0)
theorem zh5_3 : gI (iAll M).2 5 3 = 6 := by rw [iAll_e, zx5, iX_e]; rfl
theorem zh68_3 : gI (iAll M).2 68 3 = 6 := by rw [iAll_e]; exact (rfl : gI (iR (iX M)).2 68 3 = 6)
theorem zh5_4 : gI (iAll M).2 5 4 = 1 := by rw [iAll_e, zx5, iX_e]; rfl
theorem zh68_4 : gI (iAll M).2 68 4 = 1 := by rw [iAll_e]; exact (rfl : gI (iR (iX M)).2 68 4 = 1)
theorem zh5_5 : gI (iAll M).2 5 5 = 5 := by rw [iAll_e, zx5, iX_e]; rfl
theorem zh68_5 : gI (iAll M).2 68 5 = 5 := by rw [iAll_e]; exact (rfl : gI (iR (iX M)).2 68 5 = 5)
theorem zh5_6 : gI (iAll M).2 5 6 = 7 := by rw [iAll_e, zx5, iX_e]; rfl
theorem zh68_6 : gI (iAll M).2 68 6 = 7 := by rw [iAll_e]; exact (rfl : gI (iR (iX M)).2 68 6 = 7)
theorem zm0 : gI (iAll M).2 103 0 = -1 := by rw [iAll_e]; exact (rfl : gI (iR (iX M)).2 103 0 = -1)
theorem zm1 : gI (iAll M).2 103 1 = -1 := by rw [iAll_e]; exact (rfl : gI (iR (iX M)).2 103 1 = -1)
theorem zm2 : gI (iAll M).2 103 2 = -1 := by rw [iAll_e]; exact (rfl : gI (iR (iX M)).2 103 2 = -1)
theorem zm3 : gI (iAll M).2 103 3 = -1 := by rw [iAll_e]; exact (rfl : gI (iR (iX M)).2 103 3 = -1)
theorem zm4 : gI (iAll M).2 103 4 = -1 := by rw [iAll_e]; exact (rfl : gI (iR (iX M)).2 103 4 = -1)
theorem zm5 : gI (iAll M).2 103 5 = -1 := by rw [iAll_e]; exact (rfl : gI (iR (iX M)).2 103 5 = -1)
theorem GR_pos : ∀ w, w < 11 → 0 < GR w := by decide
theorem INV_0 (hS : StatW M.2) : INV false (iAll M).2 := by
  have z0 : ix 0 = 0 := rfl
  refine ⟨?_, ⟨?_, ?_⟩, ⟨?_, ?_, ?_⟩, ⟨?_, ?_, ?_⟩, ⟨?_, ?_, ?_, ?_, ?_⟩, ⟨?_, ?_, ?_, ?_, ?_⟩, ⟨?_, ?_, ?_, ?_, ?_, ?_⟩, ?_, ⟨?_, ?_, ?_⟩, ⟨?_, ?_, ?_, ?_⟩⟩
  · unfold StatW
    simp only [zk0, zk1, zk2]
    exact hS
  · intro j hj
    have : j = 0 ∨ j = 1 ∨ j = 2 ∨ j = 3 ∨ j = 4 ∨ j = 5 ∨ j = 6 := by omega
    rcases this with h | h | h | h | h | h | h <;> subst h
    · rw [zh5_0]; decide
    · rw [zh5_1]; decide
    · rw [zh5_2]; decide
    · rw [zh5_3]; decide
    · rw [zh5_4]; decide
    · rw [zh5_5]; decide
    · rw [zh5_6]; decide
  · intro j hj
    have : j = 0 ∨ j = 1 ∨ j = 2 ∨ j = 3 ∨ j = 4 ∨ j = 5 ∨ j = 6 := by omega
    rcases this with h | h | h | h | h | h | h <;> subst h
    · rw [zh5_0, zh68_0]
    · rw [zh5_1, zh68_1]
    · rw [zh5_2, zh68_2]
    · rw [zh5_3, zh68_3]
    · rw [zh5_4, zh68_4]
    · rw [zh5_5, zh68_5]
    · rw [zh5_6, zh68_6]
  · rw [zi18]; decide
  · rw [zi67, zi18]
  · intro j hj
    rw [zi19, zi20, zi21, zi22, zi18, zi69, zi70, zi71, zi72]
    exact ⟨⟨by decide, by decide, by decide, fun _ => rfl⟩, rfl, rfl, rfl, rfl⟩
  · rw [zi26]; decide
  · rw [zi67, zi26]
  · intro j hj
    rw [zi27, zi73]
    exact ⟨by decide, rfl⟩
  · intro j hj
    rw [zi98, zi33]
  · exact Or.inl (zi33 5)
  · rw [zi67, zi33]
  · intro j hj
    rw [zi34, zi99, z0]
    exact ⟨GR_pos j (by omega), rfl⟩
  · intro j hj
    rw [zi100, zi34]
  · rw [zi35]; decide
  · rw [zi35, zi35]; exact Nat.le_refl _
  · rw [zi67, zi35]
  · rw [zi67, zi35, zi35]; rfl
  · intro j hj
    rw [zi37, zi36, zi38, zi39, zi74, zi75, zi76, zi77]
    exact ⟨⟨by decide, by decide, by decide, by decide⟩, rfl, rfl, rfl, rfl⟩
  · rw [zi40]; decide
  · rw [zi67, zi40]
  · intro j hj
    rw [zi41, zi101]
    exact ⟨by decide, rfl⟩
  · rw [zi40]; decide
  · rw [zi67, zi40]
  · intro j hj
    rw [zi102, zi42]
  · intro i hi
    have : i = 0 ∨ i = 1 ∨ i = 2 ∨ i = 3 ∨ i = 4 ∨ i = 5 := by omega
    rcases this with h | h | h | h | h | h <;> subst h
    · exact Or.inl ⟨zi55 0, zm0⟩
    · exact Or.inl ⟨zi57 0, zm1⟩
    · exact Or.inl ⟨zi59 0, zm2⟩
    · exact Or.inl ⟨zi61 0, zm3⟩
    · exact Or.inl ⟨zi63 0, zm4⟩
    · exact Or.inl ⟨zi65 0, zm5⟩
  · rw [zi7]; decide
  · rw [zi67, zi7]
  · intro j hj
    rw [zi8, zi78]
    exact ⟨by decide, by decide⟩
  · show ix (gI (iAll M).2 9 4) ≤ 60
    rw [zi9]; decide
  · show gI (iAll M).2 67 28 = bI (!decide (gI (iAll M).2 9 4 = 0))
    rw [zi9, zi67]; decide
  · show gI (iAll M).2 81 0 = gI (iAll M).2 9 4
    rw [zi9, zi81]
  · intro i hi
    have hi : i < ix (gI (iAll M).2 9 4) := hi
    rw [zi9, z0] at hi
    exact absurd hi (Nat.not_lt_zero _)
theorem g3_0 : gI (iAll M).2 3 = gI M.2 3 := funext zk3
end START
