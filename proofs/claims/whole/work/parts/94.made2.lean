def ctL (pc : Nat) : Bool := Nat.beq pc 134
def i0a (M : Mm) : Mm := ur 4 11 54 (nw 54 (ur 4 10 53 (nw 53 (ur 4 9 48 (i11_48 (nw 48 (ur 4 8 43 (i10_43 (nw 43 (ur 4 7 40 (i9_40 (nw 40 (ur 4 6 35 (i8_35 (nw 35 (ur 4 5 33 (i7_33 (nw 33 (ur 4 4 26 (i6_26 (nw 26 (ur 4 3 18 (i5_18 (nw 18 (ur 4 2 7 (i3_7 (nw 7 (ur 4 1 6 (i2_6 (nw 6 (ur 4 0 5 (i2_5 (nw 5 M)))))))))))))))))))))))))))))))))
set_option maxRecDepth 100000 in
theorem k0a {d : Nat} {M : Mm} {f : Mm → Prop} (hd : 4 ≤ d) (h : WP (d + 1) 67 0 134 [.ref 4, .int 0] [] 55 (i0a M) (rV f)) : WP (d + 1) 67 0 0 [.ref 4, U] [] 5 M (rV f) := by
  refine blk 120 ctL (show WP d 6 2 0 [.ref 5] [] 6 (nw 5 M) (rV (fun N0 => WP d 7 2 0 [.ref 6] [] 7 (nw 6 (ur 4 0 5 N0)) (rV (fun N1 => WP d 18 3 0 [.ref 7] [] 8 (nw 7 (ur 4 1 6 N1)) (rV (fun N2 => WP d 26 5 0 [.ref 18] [] 19 (nw 18 (ur 4 2 7 N2)) (rV (fun N3 => WP d 33 6 0 [.ref 26] [] 27 (nw 26 (ur 4 3 18 N3)) (rV (fun N4 => WP d 35 7 0 [.ref 33] [] 34 (nw 33 (ur 4 4 26 N4)) (rV (fun N5 => WP d 40 8 0 [.ref 35] [] 36 (nw 35 (ur 4 5 33 N5)) (rV (fun N6 => WP d 43 9 0 [.ref 40] [] 41 (nw 40 (ur 4 6 35 N6)) (rV (fun N7 => WP d 48 10 0 [.ref 43] [] 44 (nw 43 (ur 4 7 40 N7)) (rV (fun N8 => WP d 53 11 0 [.ref 48] [] 49 (nw 48 (ur 4 8 43 N8)) (rV (fun N9 => WP (d + 1) 67 0 134 [.ref 4, .int 0] [] 55 (ur 4 11 54 (nw 54 (ur 4 10 53 (nw 53 (ur 4 9 48 N9))))) (rV f))))))))))))))))))))) from ?_)
  refine k2_5 (by omega) ?_
  refine k2_6 (by omega) ?_
  refine k3_7 (by omega) ?_
  refine k5_18 (by omega) ?_
  refine k6_26 (by omega) ?_
  refine k7_33 (by omega) ?_
  refine k8_35 (by omega) ?_
  refine k9_40 (by omega) ?_
  refine k10_43 (by omega) ?_
  refine k11_48 (by omega) ?_
  exact h
theorem k0_it0 {d : Nat} {N : Mm} {f : Mm → Prop} (hd : 4 ≤ d) (hN : N.1 4 10 = some 53) (h : WP (d + 1) 67 0 134 [.ref 4, .int 1] [] 57 (ur 53 0 55 (i12_55 (nw 55 N))) (rV f)) : WP (d + 1) 67 0 134 [.ref 4, .int 0] [] 55 N (rV f) := by
  refine blk 16 ctL ?_
  refine rK_i hN ?_
  refine rdN_i (n := 55) (r := 53) (by decide) (by decide) ?_
  refine brK_f (c := (6 : Int32) ≤ 0) (by show ¬ ((6 : Int32) ≤ 0); decide) ?_
  refine rK_i hN ?_
  refine k12_55 (by omega) ?_
  refine oK_i (n := 57) (r := 53) (c := 24) (by decide) rfl ?_
  refine oK_i (n := 57) (r := 55) (c := 9) (by decide) rfl ?_
  refine iK_i (i := 0) (n := 6) (by decide) ?_
  exact h
theorem k0_it1 {d : Nat} {N : Mm} {f : Mm → Prop} (hd : 4 ≤ d) (hN : N.1 4 10 = some 53) (h : WP (d + 1) 67 0 134 [.ref 4, .int 2] [] 59 (ur 53 1 57 (i12_57 (nw 57 N))) (rV f)) : WP (d + 1) 67 0 134 [.ref 4, .int 1] [] 57 N (rV f) := by
  refine blk 16 ctL ?_
  refine rK_i hN ?_
  refine rdN_i (n := 57) (r := 53) (by decide) (by decide) ?_
  refine brK_f (c := (6 : Int32) ≤ 1) (by show ¬ ((6 : Int32) ≤ 1); decide) ?_
  refine rK_i hN ?_
  refine k12_57 (by omega) ?_
  refine oK_i (n := 59) (r := 53) (c := 24) (by decide) rfl ?_
  refine oK_i (n := 59) (r := 57) (c := 9) (by decide) rfl ?_
  refine iK_i (i := 1) (n := 6) (by decide) ?_
  exact h
theorem k0_it2 {d : Nat} {N : Mm} {f : Mm → Prop} (hd : 4 ≤ d) (hN : N.1 4 10 = some 53) (h : WP (d + 1) 67 0 134 [.ref 4, .int 3] [] 61 (ur 53 2 59 (i12_59 (nw 59 N))) (rV f)) : WP (d + 1) 67 0 134 [.ref 4, .int 2] [] 59 N (rV f) := by
  refine blk 16 ctL ?_
  refine rK_i hN ?_
  refine rdN_i (n := 59) (r := 53) (by decide) (by decide) ?_
  refine brK_f (c := (6 : Int32) ≤ 2) (by show ¬ ((6 : Int32) ≤ 2); decide) ?_
  refine rK_i hN ?_
  refine k12_59 (by omega) ?_
  refine oK_i (n := 61) (r := 53) (c := 24) (by decide) rfl ?_
  refine oK_i (n := 61) (r := 59) (c := 9) (by decide) rfl ?_
  refine iK_i (i := 2) (n := 6) (by decide) ?_
  exact h
theorem k0_it3 {d : Nat} {N : Mm} {f : Mm → Prop} (hd : 4 ≤ d) (hN : N.1 4 10 = some 53) (h : WP (d + 1) 67 0 134 [.ref 4, .int 4] [] 63 (ur 53 3 61 (i12_61 (nw 61 N))) (rV f)) : WP (d + 1) 67 0 134 [.ref 4, .int 3] [] 61 N (rV f) := by
  refine blk 16 ctL ?_
  refine rK_i hN ?_
  refine rdN_i (n := 61) (r := 53) (by decide) (by decide) ?_
  refine brK_f (c := (6 : Int32) ≤ 3) (by show ¬ ((6 : Int32) ≤ 3); decide) ?_
  refine rK_i hN ?_
  refine k12_61 (by omega) ?_
  refine oK_i (n := 63) (r := 53) (c := 24) (by decide) rfl ?_
  refine oK_i (n := 63) (r := 61) (c := 9) (by decide) rfl ?_
  refine iK_i (i := 3) (n := 6) (by decide) ?_
  exact h
theorem k0_it4 {d : Nat} {N : Mm} {f : Mm → Prop} (hd : 4 ≤ d) (hN : N.1 4 10 = some 53) (h : WP (d + 1) 67 0 134 [.ref 4, .int 5] [] 65 (ur 53 4 63 (i12_63 (nw 63 N))) (rV f)) : WP (d + 1) 67 0 134 [.ref 4, .int 4] [] 63 N (rV f) := by
  refine blk 16 ctL ?_
  refine rK_i hN ?_
  refine rdN_i (n := 63) (r := 53) (by decide) (by decide) ?_
  refine brK_f (c := (6 : Int32) ≤ 4) (by show ¬ ((6 : Int32) ≤ 4); decide) ?_
  refine rK_i hN ?_
  refine k12_63 (by omega) ?_
  refine oK_i (n := 65) (r := 53) (c := 24) (by decide) rfl ?_
  refine oK_i (n := 65) (r := 63) (c := 9) (by decide) rfl ?_
  refine iK_i (i := 4) (n := 6) (by decide) ?_
  exact h
theorem k0_it5 {d : Nat} {N : Mm} {f : Mm → Prop} (hd : 4 ≤ d) (hN : N.1 4 10 = some 53) (h : WP (d + 1) 67 0 134 [.ref 4, .int 6] [] 67 (ur 53 5 65 (i12_65 (nw 65 N))) (rV f)) : WP (d + 1) 67 0 134 [.ref 4, .int 5] [] 65 N (rV f) := by
  refine blk 16 ctL ?_
  refine rK_i hN ?_
  refine rdN_i (n := 65) (r := 53) (by decide) (by decide) ?_
  refine brK_f (c := (6 : Int32) ≤ 5) (by show ¬ ((6 : Int32) ≤ 5); decide) ?_
  refine rK_i hN ?_
  refine k12_65 (by omega) ?_
  refine oK_i (n := 67) (r := 53) (c := 24) (by decide) rfl ?_
  refine oK_i (n := 67) (r := 65) (c := 9) (by decide) rfl ?_
  refine iK_i (i := 5) (n := 6) (by decide) ?_
  exact h
theorem k0_end {d : Nat} {N : Mm} {f : Mm → Prop} (hN : N.1 4 10 = some 53) (h : f N) : WP (d + 1) 67 0 134 [.ref 4, .int 6] [] 67 N (rV f) := by
  refine blk 16 ctL ?_
  refine rK_i hN ?_
  refine rdN_i (n := 67) (r := 53) (by decide) (by decide) ?_
  refine brK_t (c := (6 : Int32) ≤ 6) (by show (6 : Int32) ≤ 6; decide) ?_
  exact h
