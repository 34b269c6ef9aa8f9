/-! THE REFERENCES ARE THE SAME WHATEVER THE NUMBERS ARE -/
theorem Rq_nw {n : Nat} {M N : Mm} (h : M.1 = N.1) : (nw n M).1 = (nw n N).1 := by
  show zR M.1 n = zR N.1 n
  rw [h]
theorem Rq_ur {r k x : Nat} {M N : Mm} (h : M.1 = N.1) : (ur r k x M).1 = (ur r k x N).1 := by
  show uR M.1 r k (some x) = uR N.1 r k (some x)
  rw [h]
theorem Rq_sp {c r k : Nat} {v : Int32} {M N : Mm} (h : M.1 = N.1) : (sp c r k v M).1 = (sp c r k v N).1 := h
theorem Rq_ia {r k : Nat} {v : Int32} {M N : Mm} (h : M.1 = N.1) : (ia r k v M).1 = (ia r k v N).1 := h
theorem Rq_i2_5 {M N : Mm} (h : M.1 = N.1) : (i2_5 M).1 = (i2_5 N).1 := Rq_sp (Rq_sp (Rq_sp (Rq_sp h)))
theorem Rq_i2_6 {M N : Mm} (h : M.1 = N.1) : (i2_6 M).1 = (i2_6 N).1 := Rq_sp (Rq_sp (Rq_sp (Rq_sp h)))
theorem Rq_i4_9 {M N : Mm} (h : M.1 = N.1) : (i4_9 M).1 = (i4_9 N).1 := Rq_ur (Rq_nw (Rq_ur (Rq_nw (Rq_ur (Rq_nw h)))))
theorem Rq_i4_13 {M N : Mm} (h : M.1 = N.1) : (i4_13 M).1 = (i4_13 N).1 := Rq_ur (Rq_nw (Rq_ur (Rq_nw (Rq_ur (Rq_nw h)))))
theorem Rq_i3_7 {M N : Mm} (h : M.1 = N.1) : (i3_7 M).1 = (i3_7 N).1 := Rq_ur (Rq_nw (Rq_ur (Rq_i4_13 (Rq_nw (Rq_ur (Rq_i4_9 (Rq_nw (Rq_ur (Rq_nw h)))))))))
theorem Rq_i5_18 {M N : Mm} (h : M.1 = N.1) : (i5_18 M).1 = (i5_18 N).1 := Rq_ur (Rq_nw (Rq_ur (Rq_nw (Rq_ur (Rq_nw (Rq_ur (Rq_nw (Rq_ur (Rq_nw (Rq_ur (Rq_nw (Rq_ur (Rq_nw h)))))))))))))
theorem Rq_i6_26 {M N : Mm} (h : M.1 = N.1) : (i6_26 M).1 = (i6_26 N).1 := Rq_ur (Rq_nw (Rq_ur (Rq_nw (Rq_ur (Rq_nw (Rq_ur (Rq_nw (Rq_ur (Rq_nw (Rq_ur (Rq_nw h)))))))))))
theorem Rq_i7_33 {M N : Mm} (h : M.1 = N.1) : (i7_33 M).1 = (i7_33 N).1 := Rq_ur (Rq_nw h)
theorem Rq_i8_35 {M N : Mm} (h : M.1 = N.1) : (i8_35 M).1 = (i8_35 N).1 := Rq_ur (Rq_nw (Rq_ur (Rq_nw (Rq_ur (Rq_nw (Rq_ur (Rq_nw h)))))))
theorem Rq_i9_40 {M N : Mm} (h : M.1 = N.1) : (i9_40 M).1 = (i9_40 N).1 := Rq_ur (Rq_nw (Rq_ur (Rq_nw h)))
theorem Rq_i2_44 {M N : Mm} (h : M.1 = N.1) : (i2_44 M).1 = (i2_44 N).1 := Rq_sp (Rq_sp (Rq_sp (Rq_sp h)))
theorem Rq_i10_43 {M N : Mm} (h : M.1 = N.1) : (i10_43 M).1 = (i10_43 N).1 := Rq_ur (Rq_nw (Rq_ur (Rq_nw (Rq_ur (Rq_nw (Rq_ur (Rq_i2_44 (Rq_nw h))))))))
theorem Rq_i2_49 {M N : Mm} (h : M.1 = N.1) : (i2_49 M).1 = (i2_49 N).1 := Rq_sp (Rq_sp (Rq_sp (Rq_sp h)))
theorem Rq_i11_48 {M N : Mm} (h : M.1 = N.1) : (i11_48 M).1 = (i11_48 N).1 := Rq_ur (Rq_nw (Rq_ur (Rq_nw (Rq_ur (Rq_nw (Rq_ur (Rq_i2_49 (Rq_nw h))))))))
theorem Rq_i12_55 {M N : Mm} (h : M.1 = N.1) : (i12_55 M).1 = (i12_55 N).1 := Rq_ur (Rq_nw h)
theorem Rq_i12_57 {M N : Mm} (h : M.1 = N.1) : (i12_57 M).1 = (i12_57 N).1 := Rq_ur (Rq_nw h)
theorem Rq_i12_59 {M N : Mm} (h : M.1 = N.1) : (i12_59 M).1 = (i12_59 N).1 := Rq_ur (Rq_nw h)
theorem Rq_i12_61 {M N : Mm} (h : M.1 = N.1) : (i12_61 M).1 = (i12_61 N).1 := Rq_ur (Rq_nw h)
theorem Rq_i12_63 {M N : Mm} (h : M.1 = N.1) : (i12_63 M).1 = (i12_63 N).1 := Rq_ur (Rq_nw h)
theorem Rq_i12_65 {M N : Mm} (h : M.1 = N.1) : (i12_65 M).1 = (i12_65 N).1 := Rq_ur (Rq_nw h)
theorem Rq_i178_67 {M N : Mm} (h : M.1 = N.1) : (i178_67 M).1 = (i178_67 N).1 := Rq_ur (Rq_nw (Rq_ur (Rq_nw (Rq_ur (Rq_nw (Rq_ur (Rq_ia (Rq_ia (Rq_ia (Rq_ia (Rq_ia (Rq_ia (Rq_nw (Rq_ur (Rq_nw (Rq_ur (Rq_nw (Rq_ur (Rq_nw (Rq_ur (Rq_nw (Rq_ur (Rq_nw (Rq_ur (Rq_nw (Rq_ur (Rq_nw (Rq_ur (Rq_nw (Rq_ur (Rq_nw (Rq_ur (Rq_nw (Rq_ur (Rq_nw (Rq_ur (Rq_nw (Rq_ur (Rq_nw (Rq_ur (Rq_nw (Rq_ur (Rq_nw (Rq_ur (Rq_nw (Rq_ur (Rq_nw (Rq_ur (Rq_nw (Rq_ur (Rq_nw (Rq_ur (Rq_nw (Rq_ur (Rq_nw (Rq_ur (Rq_nw (Rq_ur (Rq_nw (Rq_ur (Rq_nw (Rq_ur (Rq_nw (Rq_ur (Rq_nw (Rq_ur (Rq_nw (Rq_ur (Rq_nw (Rq_ur (Rq_nw (Rq_ur (Rq_nw (Rq_ur (Rq_nw (Rq_ur (Rq_nw (Rq_ur (Rq_nw (Rq_ur (Rq_nw (Rq_ur (Rq_ia (Rq_ia (Rq_ia (Rq_ia (Rq_ia (Rq_ia (Rq_ia (Rq_nw h))))))))))))))))))))))))))))))))))))))))))))))))))))))))))))))))))))))))))))))))))))))))))
theorem Rq_i0_4 {M N : Mm} (h : M.1 = N.1) : (i0_4 M).1 = (i0_4 N).1 := Rq_ur (Rq_i12_65 (Rq_nw (Rq_ur (Rq_i12_63 (Rq_nw (Rq_ur (Rq_i12_61 (Rq_nw (Rq_ur (Rq_i12_59 (Rq_nw (Rq_ur (Rq_i12_57 (Rq_nw (Rq_ur (Rq_i12_55 (Rq_nw (Rq_ur (Rq_nw (Rq_ur (Rq_nw (Rq_ur (Rq_i11_48 (Rq_nw (Rq_ur (Rq_i10_43 (Rq_nw (Rq_ur (Rq_i9_40 (Rq_nw (Rq_ur (Rq_i8_35 (Rq_nw (Rq_ur (Rq_i7_33 (Rq_nw (Rq_ur (Rq_i6_26 (Rq_nw (Rq_ur (Rq_i5_18 (Rq_nw (Rq_ur (Rq_i3_7 (Rq_nw (Rq_ur (Rq_i2_6 (Rq_nw (Rq_ur (Rq_i2_5 (Rq_nw h)))))))))))))))))))))))))))))))))))))))))))))))))))
theorem Rq_iAll {M N : Mm} (h : M.1 = N.1) : (iAll M).1 = (iAll N).1 := Rq_i178_67 (Rq_nw (Rq_i0_4 (Rq_nw h)))
theorem R_eq (S : M2) : (iAll (fun _ _ => none, S)).1 = FR false := by
  funext a j
  rw [Rq_iAll (M := (fun _ _ => none, S)) (N := (fun _ _ => none, (fun _ _ => 0, fun _ _ => 0))) rfl]
  by_cases ha : a < 107
  · by_cases hj : j < 65
    · exact R_in a ha j hj
    · rw [FR_65 a j (by omega)]
      exact Oz_iAll (fun _ _ _ => rfl) a j (Or.inr (by omega))
  · rw [FR_107 (by omega) j]
    exact Oz_iAll (fun _ _ _ => rfl) a j (Or.inl (by omega))
