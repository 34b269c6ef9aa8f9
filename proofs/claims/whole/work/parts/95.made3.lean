def i0_4 (M : Mm) : Mm := ur 53 5 65 (i12_65 (nw 65 (ur 53 4 63 (i12_63 (nw 63 (ur 53 3 61 (i12_61 (nw 61 (ur 53 2 59 (i12_59 (nw 59 (ur 53 1 57 (i12_57 (nw 57 (ur 53 0 55 (i12_55 (nw 55 (ur 4 11 54 (nw 54 (ur 4 10 53 (nw 53 (ur 4 9 48 (i11_48 (nw 48 (ur 4 8 43 (i10_43 (nw 43 (ur 4 7 40 (i9_40 (nw 40 (ur 4 6 35 (i8_35 (nw 35 (ur 4 5 33 (i7_33 (nw 33 (ur 4 4 26 (i6_26 (nw 26 (ur 4 3 18 (i5_18 (nw 18 (ur 4 2 7 (i3_7 (nw 7 (ur 4 1 6 (i2_6 (nw 6 (ur 4 0 5 (i2_5 (nw 5 M)))))))))))))))))))))))))))))))))))))))))))))))))))
theorem k0_4 {d : Nat} {M : Mm} {f : Mm → Prop} (hd : 5 ≤ d) (h : f (i0_4 M)) : WP d 67 0 0 [.ref 4, U] [] 5 M (rV f) := by
  obtain ⟨d, rfl⟩ := ex1 (e := 4) hd
  exact k0a (by omega) (k0_it0 (by omega) rfl (k0_it1 (by omega) rfl (k0_it2 (by omega) rfl (k0_it3 (by omega) rfl (k0_it4 (by omega) rfl (k0_it5 (by omega) rfl (k0_end rfl h)))))))
def iAll (M : Mm) : Mm := i178_67 (nw 67 (i0_4 (nw 4 M)))
theorem k303 {d : Nat} {M : Mm} {Q : QT} (hd : 5 ≤ d) (h : WP (d + 1) 107 303 18 [.ref 3, .ref 4, .ref 67, .int 0] [] 107 (iAll M) Q) : WP (d + 1) 107 303 0 [.ref 3, U, U, U] [] 4 M Q := by
  refine blk 20 (fun pc => Nat.beq pc 18) (show WP d 67 0 0 [.ref 4, U] [] 5 (nw 4 M) (rV (fun N0 => WP d 107 178 0 [.ref 67] [] 68 (nw 67 N0) (rV (fun N1 => WP (d + 1) 107 303 18 [.ref 3, .ref 4, .ref 67, .int 0] [] 107 N1 Q)))) from ?_)
  refine k0_4 (by omega) ?_
  refine k178_67 (by omega) ?_
  exact h
