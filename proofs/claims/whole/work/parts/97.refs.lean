/-! THE REFERENCES -/
def Oz (M : Mm) : Prop := ∀ a j, (107 ≤ a ∨ 65 ≤ j) → M.1 a j = none
theorem Oz_nw {n : Nat} {M : Mm} (h : Oz M) : Oz (nw n M) := fun a j q => by
  show (if a = n then none else M.1 a j) = none
  by_cases e : a = n
  · rw [if_pos e]
  · rw [if_neg e]; exact h a j q
theorem Oz_ur {r k x : Nat} {M : Mm} (hr : r < 107) (hk : k < 65) (h : Oz M) : Oz (ur r k x M) := fun a j q => by
  show (if a = r ∧ j = k then some x else M.1 a j) = none
  rw [if_neg (fun e => by omega)]
  exact h a j q
theorem Oz_sp {c r k : Nat} {v : Int32} {M : Mm} (h : Oz M) : Oz (sp c r k v M) := h
theorem Oz_ia {r k : Nat} {v : Int32} {M : Mm} (h : Oz M) : Oz (ia r k v M) := h
theorem Oz_i2_5 {M : Mm} (h : Oz M) : Oz (i2_5 M) := by
  unfold i2_5
  repeat first | exact h | refine Oz_nw ?_ | refine Oz_ur (by decide) (by decide) ?_ | refine Oz_sp ?_ | refine Oz_ia ?_
theorem Oz_i2_6 {M : Mm} (h : Oz M) : Oz (i2_6 M) := by
  unfold i2_6
  repeat first | exact h | refine Oz_nw ?_ | refine Oz_ur (by decide) (by decide) ?_ | refine Oz_sp ?_ | refine Oz_ia ?_ | refine Oz_i2_5 ?_
theorem Oz_i4_9 {M : Mm} (h : Oz M) : Oz (i4_9 M) := by
  unfold i4_9
  repeat first | exact h | refine Oz_nw ?_ | refine Oz_ur (by decide) (by decide) ?_ | refine Oz_sp ?_ | refine Oz_ia ?_ | refine Oz_i2_5 ?_ | refine Oz_i2_6 ?_
theorem Oz_i4_13 {M : Mm} (h : Oz M) : Oz (i4_13 M) := by
  unfold i4_13
  repeat first | exact h | refine Oz_nw ?_ | refine Oz_ur (by decide) (by decide) ?_ | refine Oz_sp ?_ | refine Oz_ia ?_ | refine Oz_i2_5 ?_ | refine Oz_i2_6 ?_ | refine Oz_i4_9 ?_
theorem Oz_i3_7 {M : Mm} (h : Oz M) : Oz (i3_7 M) := by
  unfold i3_7
  repeat first | exact h | refine Oz_nw ?_ | refine Oz_ur (by decide) (by decide) ?_ | refine Oz_sp ?_ | refine Oz_ia ?_ | refine Oz_i2_5 ?_ | refine Oz_i2_6 ?_ | refine Oz_i4_9 ?_ | refine Oz_i4_13 ?_
theorem Oz_i5_18 {M : Mm} (h : Oz M) : Oz (i5_18 M) := by
  unfold i5_18
  repeat first | exact h | refine Oz_nw ?_ | refine Oz_ur (by decide) (by decide) ?_ | refine Oz_sp ?_ | refine Oz_ia ?_ | refine Oz_i2_5 ?_ | refine Oz_i2_6 ?_ | refine Oz_i4_9 ?_ | refine Oz_i4_13 ?_ | refine Oz_i3_7 ?_
theorem Oz_i6_26 {M : Mm} (h : Oz M) : Oz (i6_26 M) := by
  unfold i6_26
  repeat first | exact h | refine Oz_nw ?_ | refine Oz_ur (by decide) (by decide) ?_ | refine Oz_sp ?_ | refine Oz_ia ?_ | refine Oz_i2_5 ?_ | refine Oz_i2_6 ?_ | refine Oz_i4_9 ?_ | refine Oz_i4_13 ?_ | refine Oz_i3_7 ?_ | refine Oz_i5_18 ?_
theorem Oz_i7_33 {M : Mm} (h : Oz M) : Oz (i7_33 M) := by
  unfold i7_33
  repeat first | exact h | refine Oz_nw ?_ | refine Oz_ur (by decide) (by decide) ?_ | refine Oz_sp ?_ | refine Oz_ia ?_ | refine Oz_i2_5 ?_ | refine Oz_i2_6 ?_ | refine Oz_i4_9 ?_ | refine Oz_i4_13 ?_ | refine Oz_i3_7 ?_ | refine Oz_i5_18 ?_ | refine Oz_i6_26 ?_
theorem Oz_i8_35 {M : Mm} (h : Oz M) : Oz (i8_35 M) := by
  unfold i8_35
  repeat first | exact h | refine Oz_nw ?_ | refine Oz_ur (by decide) (by decide) ?_ | refine Oz_sp ?_ | refine Oz_ia ?_ | refine Oz_i2_5 ?_ | refine Oz_i2_6 ?_ | refine Oz_i4_9 ?_ | refine Oz_i4_13 ?_ | refine Oz_i3_7 ?_ | refine Oz_i5_18 ?_ | refine Oz_i6_26 ?_ | refine Oz_i7_33 ?_
theorem Oz_i9_40 {M : Mm} (h : Oz M) : Oz (i9_40 M) := by
  unfold i9_40
  repeat first | exact h | refine Oz_nw ?_ | refine Oz_ur (by decide) (by decide) ?_ | refine Oz_sp ?_ | refine Oz_ia ?_ | refine Oz_i2_5 ?_ | refine Oz_i2_6 ?_ | refine Oz_i4_9 ?_ | refine Oz_i4_13 ?_ | refine Oz_i3_7 ?_ | refine Oz_i5_18 ?_ | refine Oz_i6_26 ?_ | refine Oz_i7_33 ?_ | refine Oz_i8_35 ?_
theorem Oz_i2_44 {M : Mm} (h : Oz M) : Oz (i2_44 M) := by
  unfold i2_44
  repeat first | exact h | refine Oz_nw ?_ | refine Oz_ur (by decide) (by decide) ?_ | refine Oz_sp ?_ | refine Oz_ia ?_ | refine Oz_i2_5 ?_ | refine Oz_i2_6 ?_ | refine Oz_i4_9 ?_ | refine Oz_i4_13 ?_ | refine Oz_i3_7 ?_ | refine Oz_i5_18 ?_ | refine Oz_i6_26 ?_ | refine Oz_i7_33 ?_ | refine Oz_i8_35 ?_ | refine Oz_i9_40 ?_
theorem Oz_i10_43 {M : Mm} (h : Oz M) : Oz (i10_43 M) := by
  unfold i10_43
  repeat first | exact h | refine Oz_nw ?_ | refine Oz_ur (by decide) (by decide) ?_ | refine Oz_sp ?_ | refine Oz_ia ?_ | refine Oz_i2_5 ?_ | refine Oz_i2_6 ?_ | refine Oz_i4_9 ?_ | refine Oz_i4_13 ?_ | refine Oz_i3_7 ?_ | refine Oz_i5_18 ?_ | refine Oz_i6_26 ?_ | refine Oz_i7_33 ?_ | refine Oz_i8_35 ?_ | refine Oz_i9_40 ?_ | refine Oz_i2_44 ?_
theorem Oz_i2_49 {M : Mm} (h : Oz M) : Oz (i2_49 M) := by
  unfold i2_49
  repeat first | exact h | refine Oz_nw ?_ | refine Oz_ur (by decide) (by decide) ?_ | refine Oz_sp ?_ | refine Oz_ia ?_ | refine Oz_i2_5 ?_ | refine Oz_i2_6 ?_ | refine Oz_i4_9 ?_ | refine Oz_i4_13 ?_ | refine Oz_i3_7 ?_ | refine Oz_i5_18 ?_ | refine Oz_i6_26 ?_ | refine Oz_i7_33 ?_ | refine Oz_i8_35 ?_ | refine Oz_i9_40 ?_ | refine Oz_i2_44 ?_ | refine Oz_i10_43 ?_
theorem Oz_i11_48 {M : Mm} (h : Oz M) : Oz (i11_48 M) := by
  unfold i11_48
  repeat first | exact h | refine Oz_nw ?_ | refine Oz_ur (by decide) (by decide) ?_ | refine Oz_sp ?_ | refine Oz_ia ?_ | refine Oz_i2_5 ?_ | refine Oz_i2_6 ?_ | refine Oz_i4_9 ?_ | refine Oz_i4_13 ?_ | refine Oz_i3_7 ?_ | refine Oz_i5_18 ?_ | refine Oz_i6_26 ?_ | refine Oz_i7_33 ?_ | refine Oz_i8_35 ?_ | refine Oz_i9_40 ?_ | refine Oz_i2_44 ?_ | refine Oz_i10_43 ?_ | refine Oz_i2_49 ?_
theorem Oz_i12_55 {M : Mm} (h : Oz M) : Oz (i12_55 M) := by
  unfold i12_55
  repeat first | exact h | refine Oz_nw ?_ | refine Oz_ur (by decide) (by decide) ?_ | refine Oz_sp ?_ | refine Oz_ia ?_ | refine Oz_i2_5 ?_ | refine Oz_i2_6 ?_ | refine Oz_i4_9 ?_ | refine Oz_i4_13 ?_ | refine Oz_i3_7 ?_ | refine Oz_i5_18 ?_ | refine Oz_i6_26 ?_ | refine Oz_i7_33 ?_ | refine Oz_i8_35 ?_ | refine Oz_i9_40 ?_ | refine Oz_i2_44 ?_ | refine Oz_i10_43 ?_ | refine Oz_i2_49 ?_ | refine Oz_i11_48 ?_
theorem Oz_i12_57 {M : Mm} (h : Oz M) : Oz (i12_57 M) := by
  unfold i12_57
  repeat first | exact h | refine Oz_nw ?_ | refine Oz_ur (by decide) (by decide) ?_ | refine Oz_sp ?_ | refine Oz_ia ?_ | refine Oz_i2_5 ?_ | refine Oz_i2_6 ?_ | refine Oz_i4_9 ?_ | refine Oz_i4_13 ?_ | refine Oz_i3_7 ?_ | refine Oz_i5_18 ?_ | refine Oz_i6_26 ?_ | refine Oz_i7_33 ?_ | refine Oz_i8_35 ?_ | refine Oz_i9_40 ?_ | refine Oz_i2_44 ?_ | refine Oz_i10_43 ?_ | refine Oz_i2_49 ?_ | refine Oz_i11_48 ?_ | refine Oz_i12_55 ?_
theorem Oz_i12_59 {M : Mm} (h : Oz M) : Oz (i12_59 M) := by
  unfold i12_59
  repeat first | exact h | refine Oz_nw ?_ | refine Oz_ur (by decide) (by decide) ?_ | refine Oz_sp ?_ | refine Oz_ia ?_ | refine Oz_i2_5 ?_ | refine Oz_i2_6 ?_ | refine Oz_i4_9 ?_ | refine Oz_i4_13 ?_ | refine Oz_i3_7 ?_ | refine Oz_i5_18 ?_ | refine Oz_i6_26 ?_ | refine Oz_i7_33 ?_ | refine Oz_i8_35 ?_ | refine Oz_i9_40 ?_ | refine Oz_i2_44 ?_ | refine Oz_i10_43 ?_ | refine Oz_i2_49 ?_ | refine Oz_i11_48 ?_ | refine Oz_i12_55 ?_ | refine Oz_i12_57 ?_
theorem Oz_i12_61 {M : Mm} (h : Oz M) : Oz (i12_61 M) := by
  unfold i12_61
  repeat first | exact h | refine Oz_nw ?_ | refine Oz_ur (by decide) (by decide) ?_ | refine Oz_sp ?_ | refine Oz_ia ?_ | refine Oz_i2_5 ?_ | refine Oz_i2_6 ?_ | refine Oz_i4_9 ?_ | refine Oz_i4_13 ?_ | refine Oz_i3_7 ?_ | refine Oz_i5_18 ?_ | refine Oz_i6_26 ?_ | refine Oz_i7_33 ?_ | refine Oz_i8_35 ?_ | refine Oz_i9_40 ?_ | refine Oz_i2_44 ?_ | refine Oz_i10_43 ?_ | refine Oz_i2_49 ?_ | refine Oz_i11_48 ?_ | refine Oz_i12_55 ?_ | refine Oz_i12_57 ?_ | refine Oz_i12_59 ?_
theorem Oz_i12_63 {M : Mm} (h : Oz M) : Oz (i12_63 M) := by
  unfold i12_63
  repeat first | exact h | refine Oz_nw ?_ | refine Oz_ur (by decide) (by decide) ?_ | refine Oz_sp ?_ | refine Oz_ia ?_ | refine Oz_i2_5 ?_ | refine Oz_i2_6 ?_ | refine Oz_i4_9 ?_ | refine Oz_i4_13 ?_ | refine Oz_i3_7 ?_ | refine Oz_i5_18 ?_ | refine Oz_i6_26 ?_ | refine Oz_i7_33 ?_ | refine Oz_i8_35 ?_ | refine Oz_i9_40 ?_ | refine Oz_i2_44 ?_ | refine Oz_i10_43 ?_ | refine Oz_i2_49 ?_ | refine Oz_i11_48 ?_ | refine Oz_i12_55 ?_ | refine Oz_i12_57 ?_ | refine Oz_i12_59 ?_ | refine Oz_i12_61 ?_
theorem Oz_i12_65 {M : Mm} (h : Oz M) : Oz (i12_65 M) := by
  unfold i12_65
  repeat first | exact h | refine Oz_nw ?_ | refine Oz_ur (by decide) (by decide) ?_ | refine Oz_sp ?_ | refine Oz_ia ?_ | refine Oz_i2_5 ?_ | refine Oz_i2_6 ?_ | refine Oz_i4_9 ?_ | refine Oz_i4_13 ?_ | refine Oz_i3_7 ?_ | refine Oz_i5_18 ?_ | refine Oz_i6_26 ?_ | refine Oz_i7_33 ?_ | refine Oz_i8_35 ?_ | refine Oz_i9_40 ?_ | refine Oz_i2_44 ?_ | refine Oz_i10_43 ?_ | refine Oz_i2_49 ?_ | refine Oz_i11_48 ?_ | refine Oz_i12_55 ?_ | refine Oz_i12_57 ?_ | refine Oz_i12_59 ?_ | refine Oz_i12_61 ?_ | refine Oz_i12_63 ?_
theorem Oz_i178_67 {M : Mm} (h : Oz M) : Oz (i178_67 M) := by
  unfold i178_67
  repeat first | exact h | refine Oz_nw ?_ | refine Oz_ur (by decide) (by decide) ?_ | refine Oz_sp ?_ | refine Oz_ia ?_ | refine Oz_i2_5 ?_ | refine Oz_i2_6 ?_ | refine Oz_i4_9 ?_ | refine Oz_i4_13 ?_ | refine Oz_i3_7 ?_ | refine Oz_i5_18 ?_ | refine Oz_i6_26 ?_ | refine Oz_i7_33 ?_ | refine Oz_i8_35 ?_ | refine Oz_i9_40 ?_ | refine Oz_i2_44 ?_ | refine Oz_i10_43 ?_ | refine Oz_i2_49 ?_ | refine Oz_i11_48 ?_ | refine Oz_i12_55 ?_ | refine Oz_i12_57 ?_ | refine Oz_i12_59 ?_ | refine Oz_i12_61 ?_ | refine Oz_i12_63 ?_ | refine Oz_i12_65 ?_
theorem Oz_i0_4 {M : Mm} (h : Oz M) : Oz (i0_4 M) := by
  unfold i0_4
  repeat first | exact h | refine Oz_nw ?_ | refine Oz_ur (by decide) (by decide) ?_ | refine Oz_sp ?_ | refine Oz_ia ?_ | refine Oz_i2_5 ?_ | refine Oz_i2_6 ?_ | refine Oz_i4_9 ?_ | refine Oz_i4_13 ?_ | refine Oz_i3_7 ?_ | refine Oz_i5_18 ?_ | refine Oz_i6_26 ?_ | refine Oz_i7_33 ?_ | refine Oz_i8_35 ?_ | refine Oz_i9_40 ?_ | refine Oz_i2_44 ?_ | refine Oz_i10_43 ?_ | refine Oz_i2_49 ?_ | refine Oz_i11_48 ?_ | refine Oz_i12_55 ?_ | refine Oz_i12_57 ?_ | refine Oz_i12_59 ?_ | refine Oz_i12_61 ?_ | refine Oz_i12_63 ?_ | refine Oz_i12_65 ?_ | refine Oz_i178_67 ?_
theorem Oz_iAll {M : Mm} (h : Oz M) : Oz (iAll M) := by
  unfold iAll
  repeat first | exact h | refine Oz_nw ?_ | refine Oz_ur (by decide) (by decide) ?_ | refine Oz_sp ?_ | refine Oz_ia ?_ | refine Oz_i2_5 ?_ | refine Oz_i2_6 ?_ | refine Oz_i4_9 ?_ | refine Oz_i4_13 ?_ | refine Oz_i3_7 ?_ | refine Oz_i5_18 ?_ | refine Oz_i6_26 ?_ | refine Oz_i7_33 ?_ | refine Oz_i8_35 ?_ | refine Oz_i9_40 ?_ | refine Oz_i2_44 ?_ | refine Oz_i10_43 ?_ | refine Oz_i2_49 ?_ | refine Oz_i11_48 ?_ | refine Oz_i12_55 ?_ | refine Oz_i12_57 ?_ | refine Oz_i12_59 ?_ | refine Oz_i12_61 ?_ | refine Oz_i12_63 ?_ | refine Oz_i12_65 ?_ | refine Oz_i178_67 ?_ | refine Oz_i0_4 ?_
theorem FR_107 {a : Nat} (h : 107 ≤ a) (j : Nat) : FR false a j = none := by
  have z : ∀ k, k ≤ 107 → Nat.blt a k = false := fun k hk => blt_f.mpr (by omega)
  unfold FR
  rw [z 43 (by decide), z 59 (by decide), z 64 (by decide), z 66 (by decide), z 67 (by decide), z 68 (by decide)]
  rfl
theorem R_in : ∀ a, a < 107 → ∀ j, j < 65 → (iAll (fun _ _ => none, (fun _ _ => 0, fun _ _ => 0))).1 a j = FR false a j := by decide +kernel
