/- StyliteOverheard.salesOf(III)I -/
def ct119 : Nat → Bool := fun _ => false
set_option maxRecDepth 100000 in
theorem v119_0 {d : Nat} {b : Bool} {M : M2} {Q : QT} {x1 : Int32} {x2 : Int32} {x3 : Int32} (h : brK ((gI M 5 5) < x2) (Q (some (.int 0)) (FR b, M)) (WP d 107 15 0 [.ref 19, .int x1] [] 107 (FR b, M) (rI (fun v2 N1 => N1.1 = FR b ∧ (WP d 107 80 0 [.ref 4, .int x3, .int v2, U, U] [] 107 (FR b, N1.2) (rI (fun v4 N3 => N3.1 = FR b ∧ (Q (some (.int v4)) (FR b, N3.2))))))))) :
    WP (d + 1) 107 119 0 [.ref 4, .int x1, .int x2, .int x3] [] 107 (FR b, M) Q := blk 16 ct119 h
/- StyliteOverheard.penceOf(III)I -/
def ct120 : Nat → Bool := fun _ => false
set_option maxRecDepth 100000 in
theorem v120_0 {d : Nat} {b : Bool} {M : M2} {Q : QT} {x1 : Int32} {x2 : Int32} {x3 : Int32} (h : WP d 107 119 0 [.ref 4, .int x1, .int x2, .int x3] [] 107 (FR b, M) (rI (fun v2 N1 => N1.1 = FR b ∧ (WP d 107 15 0 [.ref 20, .int x1] [] 107 (FR b, N1.2) (rI (fun v4 N3 => N3.1 = FR b ∧ (Q (some (.int (v2 * v4))) (FR b, N3.2)))))))) :
    WP (d + 1) 107 120 0 [.ref 4, .int x1, .int x2, .int x3] [] 107 (FR b, M) Q := blk 13 ct120 h
/- StyliteOverheard.places(II)I -/
def ct121 : Nat → Bool := fun pc => Nat.beq pc 47
set_option maxRecDepth 100000 in
theorem v121_0 {d : Nat} {b : Bool} {M : M2} {Q : QT} {x1 : Int32} {x2 : Int32} {u3 : Value} {u4 : Value} {u5 : Value} {u6 : Value} {u7 : Value} (h : WP d 107 18 0 [.ref 4, .int x1] [] 107 (FR b, M) (rA (fun N1 => N1.1 = FR b ∧ (Q (some (.int (-1))) (FR b, N1.2))) (fun q2 N1 => N1.1 = FR b ∧ (WP d 107 65 0 [.int x2] [] 107 (FR b, N1.2) (rI (fun v4 N3 => N3.1 = FR b ∧ (brK (v4 = 0) (Q (some (.int (-1))) (FR b, N3.2)) (oK 107 q2 9 (WP d 107 19 0 [.ref q2, .int 0] [] 107 (FR b, N3.2) (rI (fun v6 N5 => N5.1 = FR b ∧ (brK (v6 = 0) (oK 107 q2 9 (WP d 107 66 0 [.ref q2] [] 107 (FR b, N5.2) (rI (fun v9 N8 => N8.1 = FR b ∧ (Q (some (.int v9)) (FR b, N8.2)))))) (WP d 107 67 0 [.ref 4, .null, .int x2, U] [] 107 (FR b, N5.2) (rV (fun N7 => N7.1 = FR b ∧ (WP (d + 1) 107 121 47 [.ref 4, .int x1, .int x2, .ref q2, .int 0, .int 0, .int 0, u7] [] 107 (FR b, N7.2) Q)))))))))))))))) :
    WP (d + 1) 107 121 0 [.ref 4, .int x1, .int x2, u3, u4, u5, u6, u7] [] 107 (FR b, M) Q := blk 25 ct121 h
set_option maxRecDepth 100000 in
theorem v121_47 {d : Nat} {b : Bool} {M : M2} {Q : QT} {u1 : Value} {x2 : Int32} {r3 : Nat} {x4 : Int32} {x5 : Int32} {x6 : Int32} {u7 : Value} (h : oK 107 r3 9 (brK ((gI M r3 3) ≤ x6) (Q (some (.int x4)) (FR b, M)) (oK 107 r3 9 (WP d 107 70 0 [.ref r3, .int x6] [] 107 (FR b, M) (rI (fun v2 N1 => N1.1 = FR b ∧ (WP d 107 27 0 [.ref 18, .int v2] [] 107 (FR b, N1.2) (rI (fun v4 N3 => N3.1 = FR b ∧ (brK (v4 = 0) (Q (some (.int x4)) (FR b, N3.2)) (brK (((x5 >>> (v2 &&& 31)) &&& 1) = 0) (WP d 107 120 0 [.ref 4, .int v2, .int x6, .int x2] [] 107 (FR b, N3.2) (rI (fun v6 N5 => N5.1 = FR b ∧ (WP (d + 1) 107 121 47 [.ref 4, u1, .int x2, .ref r3, .int (x4 + v6), .int (x5 ||| (1 <<< (v2 &&& 31))), .int (x6 + 1), .int v2] [] 107 (FR b, N5.2) Q)))) (Q (some (.int x4)) (FR b, N3.2))))))))))))) :
    WP (d + 1) 107 121 47 [.ref 4, u1, .int x2, .ref r3, .int x4, .int x5, .int x6, u7] [] 107 (FR b, M) Q := blk 37 ct121 h
/- StyliteOverheard.best(II)I -/
def ct122 : Nat → Bool := fun pc => Nat.beq pc 22
set_option maxRecDepth 100000 in
theorem v122_0 {d : Nat} {b : Bool} {M : M2} {Q : QT} {x1 : Int32} {x2 : Int32} {u3 : Value} (h : WP d 107 65 0 [.int x1] [] 107 (FR b, M) (rI (fun v2 N1 => N1.1 = FR b ∧ (brK (v2 = 0) (Q (some (.int (-1))) (FR b, N1.2)) (brK ((-1) ≤ x2) (WP d 107 67 0 [.ref 4, .null, .int x1, U] [] 107 (FR b, N1.2) (rV (fun N3 => N3.1 = FR b ∧ (WP (d + 1) 107 122 22 [.ref 4, .int x1, .int x2, .int 0] [] 107 (FR b, N3.2) Q)))) (Q (some (.int (-1))) (FR b, N1.2))))))) :
    WP (d + 1) 107 122 0 [.ref 4, .int x1, .int x2, u3] [] 107 (FR b, M) Q := blk 14 ct122 h
set_option maxRecDepth 100000 in
theorem v122_22 {d : Nat} {b : Bool} {M : M2} {Q : QT} {x1 : Int32} {x2 : Int32} {x3 : Int32} (h : brK ((gI M 18 0) ≤ x3) (WP d 107 124 0 [.ref 18, .int (gI M 5 5), U, U, U, U, U] [] 107 (FR b, M) (rI (fun v2 N1 => N1.1 = FR b ∧ (brK (0 ≤ x2) (brK ((gI N1.2 18 0) ≤ x2) (Q (some (.int (-2))) (FR b, N1.2)) (WP d 107 15 0 [.ref 23, .int x2] [] 107 (FR b, N1.2) (rI (fun v4 N3 => N3.1 = FR b ∧ (Q (some (.int v4)) (FR b, N3.2)))))) (Q (some (.int v2)) (FR b, N1.2)))))) (WP d 107 120 0 [.ref 4, .int x3, .int 0, .int x1] [] 107 (FR b, M) (rI (fun v6 N5 => N5.1 = FR b ∧ (WP d 107 123 0 [.ref 18, .int x3, .int v6] [] 107 (FR b, N5.2) (rV (fun N7 => N7.1 = FR b ∧ (WP (d + 1) 107 122 22 [.ref 4, .int x1, .int x2, .int (x3 + 1)] [] 107 (FR b, N7.2) Q)))))))) :
    WP (d + 1) 107 122 22 [.ref 4, .int x1, .int x2, .int x3] [] 107 (FR b, M) Q := blk 27 ct122 h
/- StyliteOverheard$Village.weigh(II)V -/
def ct123 : Nat → Bool := fun _ => false
set_option maxRecDepth 100000 in
theorem v123_0 {d : Nat} {b : Bool} {M : M2} {Q : QT} {x1 : Int32} {x2 : Int32} (h : brK (x1 < 0) (Q none (FR b, M)) (brK (6 ≤ x1) (Q none (FR b, M)) (iK x1 6 (Q none (FR b, sI M 25 (ix x1) x2))))) :
    WP (d + 1) 107 123 0 [.ref 18, .int x1, .int x2] [] 107 (FR b, M) Q := blk 12 ct123 h
/- StyliteOverheard$Village.bestOrder(I)I -/
def ct124 : Nat → Bool := fun pc => Nat.beq pc 2 || Nat.beq pc 28 || Nat.beq pc 46 || Nat.beq pc 88
set_option maxRecDepth 100000 in
theorem v124_0 {d : Nat} {b : Bool} {M : M2} {Q : QT} {x1 : Int32} {u2 : Value} {u3 : Value} {u4 : Value} {u5 : Value} {u6 : Value} (h : WP (d + 1) 107 124 2 [.ref 18, .int x1, .int 0, u3, u4, u5, u6] [] 107 (FR b, M) Q) :
    WP (d + 1) 107 124 0 [.ref 18, .int x1, u2, u3, u4, u5, u6] [] 107 (FR b, M) Q := blk 4 ct124 h
set_option maxRecDepth 100000 in
theorem v124_2 {d : Nat} {b : Bool} {M : M2} {Q : QT} {x1 : Int32} {x2 : Int32} {u3 : Value} {u4 : Value} {u5 : Value} {u6 : Value} (h : brK (6 ≤ x2) (WP (d + 1) 107 124 28 [.ref 18, .int x1, .int (-1), .int 1, .int 0, u5, u6] [] 107 (FR b, M) Q) (iK x2 6 (WP (d + 1) 107 124 2 [.ref 18, .int x1, .int (x2 + 1), u3, u4, u5, u6] [] 107 (FR b, sI M 24 (ix x2) x2) Q))) :
    WP (d + 1) 107 124 2 [.ref 18, .int x1, .int x2, u3, u4, u5, u6] [] 107 (FR b, M) Q := blk 12 ct124 h
set_option maxRecDepth 100000 in
theorem v124_28 {d : Nat} {b : Bool} {M : M2} {Q : QT} {x1 : Int32} {x2 : Int32} {x3 : Int32} {x4 : Int32} {u5 : Value} {u6 : Value} (h : brK (720 ≤ x4) (Q (some (.int x2)) (FR b, M)) (brK (x3 = 0) (Q (some (.int x2)) (FR b, M)) (WP (d + 1) 107 124 46 [.ref 18, .int x1, .int x2, .int x3, .int x4, .int 0, .int 0] [] 107 (FR b, M) Q))) :
    WP (d + 1) 107 124 28 [.ref 18, .int x1, .int x2, .int x3, .int x4, u5, u6] [] 107 (FR b, M) Q := blk 11 ct124 h
set_option maxRecDepth 100000 in
theorem v124_46 {d : Nat} {b : Bool} {M : M2} {Q : QT} {x1 : Int32} {x2 : Int32} {u3 : Value} {x4 : Int32} {x5 : Int32} {x6 : Int32} (h : brK ((gI M 18 0) ≤ x6) (WP (d + 1) 107 124 88 [.ref 18, .int x1, .int x2, u3, .int x4, .int x5, .int x6] [] 107 (FR b, M) Q) (brK (x1 < x6) (WP (d + 1) 107 124 88 [.ref 18, .int x1, .int x2, u3, .int x4, .int x5, .int x6] [] 107 (FR b, M) Q) (WP d 107 15 0 [.ref 24, .int x6] [] 107 (FR b, M) (rI (fun v2 N1 => N1.1 = FR b ∧ (WP d 107 15 0 [.ref 25, .int v2] [] 107 (FR b, N1.2) (rI (fun v4 N3 => N3.1 = FR b ∧ (WP (d + 1) 107 124 46 [.ref 18, .int x1, .int x2, u3, .int x4, .int (x5 + v4), .int (x6 + 1)] [] 107 (FR b, N3.2) Q))))))))) :
    WP (d + 1) 107 124 46 [.ref 18, .int x1, .int x2, u3, .int x4, .int x5, .int x6] [] 107 (FR b, M) Q := blk 21 ct124 h
set_option maxRecDepth 100000 in
theorem v124_88 {d : Nat} {b : Bool} {M : M2} {Q : QT} {x1 : Int32} {x2 : Int32} {u3 : Value} {x4 : Int32} {x5 : Int32} {u6 : Value} (h : brK (x5 ≤ x2) (WP d 107 125 0 [.ref 18, U, U, U] [] 107 (FR b, M) (rI (fun v2 N1 => N1.1 = FR b ∧ (WP (d + 1) 107 124 28 [.ref 18, .int x1, .int x2, .int v2, .int (x4 + 1), .int x5, u6] [] 107 (FR b, N1.2) Q)))) ((0 + 6 ≤ 6 ∧ 0 + 6 ≤ 6 ∧ WP d 107 125 0 [.ref 18, U, U, U] [] 107 (FR b, cI M 24 0 23 0 6) (rI (fun v4 N3 => N3.1 = FR b ∧ (WP (d + 1) 107 124 28 [.ref 18, .int x1, .int x5, .int v4, .int (x4 + 1), .int x5, u6] [] 107 (FR b, N3.2) Q)))))) :
    WP (d + 1) 107 124 88 [.ref 18, .int x1, .int x2, u3, .int x4, .int x5, u6] [] 107 (FR b, M) Q := blk 20 ct124 h
/- StyliteOverheard$Village.hasNextOrder()Z -/
def ct125 : Nat → Bool := fun pc => Nat.beq pc 7 || Nat.beq pc 51 || Nat.beq pc 91
set_option maxRecDepth 100000 in
theorem v125_0 {d : Nat} {b : Bool} {M : M2} {Q : QT} {u1 : Value} {u2 : Value} {u3 : Value} (h : WP (d + 1) 107 125 7 [.ref 18, .int ((gI M 18 0) - 2), u2, u3] [] 107 (FR b, M) Q) :
    WP (d + 1) 107 125 0 [.ref 18, u1, u2, u3] [] 107 (FR b, M) Q := blk 7 ct125 h
set_option maxRecDepth 100000 in
theorem v125_7 {d : Nat} {b : Bool} {M : M2} {Q : QT} {x1 : Int32} {u2 : Value} {u3 : Value} (h : brK (x1 < 0) (brK (0 ≤ x1) (WP (d + 1) 107 125 51 [.ref 18, .int x1, .int ((gI M 18 0) - 1), u3] [] 107 (FR b, M) Q) (Q (some (.int 0)) (FR b, M))) (WP d 107 15 0 [.ref 24, .int x1] [] 107 (FR b, M) (rI (fun v2 N1 => N1.1 = FR b ∧ (WP d 107 15 0 [.ref 24, .int (x1 + 1)] [] 107 (FR b, N1.2) (rI (fun v4 N3 => N3.1 = FR b ∧ (brK (v2 ≤ v4) (brK (0 ≤ x1) (WP (d + 1) 107 125 51 [.ref 18, .int x1, .int ((gI N3.2 18 0) - 1), u3] [] 107 (FR b, N3.2) Q) (Q (some (.int 0)) (FR b, N3.2))) (WP (d + 1) 107 125 7 [.ref 18, .int (x1 + (-1)), u2, u3] [] 107 (FR b, N3.2) Q))))))))) :
    WP (d + 1) 107 125 7 [.ref 18, .int x1, u2, u3] [] 107 (FR b, M) Q := blk 22 ct125 h
set_option maxRecDepth 100000 in
theorem v125_51 {d : Nat} {b : Bool} {M : M2} {Q : QT} {x1 : Int32} {x2 : Int32} {u3 : Value} (h : brK (x2 ≤ x1) (WP d 107 126 0 [.ref 18, .int x1, .int x2, U] [] 107 (FR b, M) (rV (fun N1 => N1.1 = FR b ∧ (WP (d + 1) 107 125 91 [.ref 18, .int x1, .int x2, .int (x1 + 1)] [] 107 (FR b, N1.2) Q)))) (WP d 107 15 0 [.ref 24, .int x2] [] 107 (FR b, M) (rI (fun v3 N2 => N2.1 = FR b ∧ (WP d 107 15 0 [.ref 24, .int x1] [] 107 (FR b, N2.2) (rI (fun v5 N4 => N4.1 = FR b ∧ (brK (v5 ≤ v3) (WP d 107 126 0 [.ref 18, .int x1, .int x2, U] [] 107 (FR b, N4.2) (rV (fun N6 => N6.1 = FR b ∧ (WP (d + 1) 107 125 91 [.ref 18, .int x1, .int x2, .int (x1 + 1)] [] 107 (FR b, N6.2) Q)))) (WP (d + 1) 107 125 51 [.ref 18, .int x1, .int (x2 + (-1)), u3] [] 107 (FR b, N4.2) Q))))))))) :
    WP (d + 1) 107 125 51 [.ref 18, .int x1, .int x2, u3] [] 107 (FR b, M) Q := blk 22 ct125 h
set_option maxRecDepth 100000 in
theorem v125_91 {d : Nat} {b : Bool} {M : M2} {Q : QT} {x1 : Int32} {u2 : Value} {x3 : Int32} (h : brK ((((gI M 18 0) + x1) - x3) ≤ x3) (Q (some (.int 1)) (FR b, M)) (WP d 107 126 0 [.ref 18, .int x3, .int (((gI M 18 0) + x1) - x3), U] [] 107 (FR b, M) (rV (fun N1 => N1.1 = FR b ∧ (WP (d + 1) 107 125 91 [.ref 18, .int x1, kl u2, .int (x3 + 1)] [] 107 (FR b, N1.2) Q))))) :
    WP (d + 1) 107 125 91 [.ref 18, .int x1, u2, .int x3] [] 107 (FR b, M) Q := blk 21 ct125 h
/- StyliteOverheard$Village.swap(II)V -/
def ct126 : Nat → Bool := fun _ => false
set_option maxRecDepth 100000 in
theorem v126_0 {d : Nat} {b : Bool} {M : M2} {Q : QT} {x1 : Int32} {x2 : Int32} {u3 : Value} (h : brK (x1 < 0) (Q none (FR b, M)) (brK (6 ≤ x1) (Q none (FR b, M)) (brK (x2 < 0) (Q none (FR b, M)) (brK (6 ≤ x2) (Q none (FR b, M)) (iK x1 6 (iK x2 6 (iK x1 6 (iK x2 6 (Q none (FR b, sI (sI M 24 (ix x1) (gI M 24 (ix x2))) 24 (ix x2) (gI M 24 (ix x1)))))))))))) :
    WP (d + 1) 107 126 0 [.ref 18, .int x1, .int x2, u3] [] 107 (FR b, M) Q := blk 30 ct126 h
/- StyliteOverheard.when(III)I -/
def ct127 : Nat → Bool := fun pc => Nat.beq pc 47 || Nat.beq pc 63
set_option maxRecDepth 100000 in
theorem v127_0 {d : Nat} {b : Bool} {M : M2} {Q : QT} {x1 : Int32} {x2 : Int32} {x3 : Int32} {u4 : Value} {u5 : Value} {u6 : Value} {u7 : Value} {u8 : Value} (h : WP d 107 27 0 [.ref 18, .int x1] [] 107 (FR b, M) (rI (fun v2 N1 => N1.1 = FR b ∧ (brK (v2 = 0) (Q (some (.int (-1))) (FR b, N1.2)) (brK (x2 < 1) (Q (some (.int (-1))) (FR b, N1.2)) (brK (24 < x2) (Q (some (.int (-1))) (FR b, N1.2)) (WP d 107 79 0 [.int x3] [] 107 (FR b, N1.2) (rI (fun v4 N3 => N3.1 = FR b ∧ (brK (v4 = 0) (Q (some (.int (-1))) (FR b, N3.2)) (WP d 107 67 0 [.ref 4, .null, .int 48, U] [] 107 (FR b, N3.2) (rV (fun N5 => N5.1 = FR b ∧ (WP (d + 1) 107 127 47 [.ref 4, .int x1, .int x2, .int x3, .int 0, .int (-1), .int 0, u7, u8] [] 107 (FR b, N5.2) Q)))))))))))))) :
    WP (d + 1) 107 127 0 [.ref 4, .int x1, .int x2, .int x3, u4, u5, u6, u7, u8] [] 107 (FR b, M) Q := blk 26 ct127 h
set_option maxRecDepth 100000 in
theorem v127_47 {d : Nat} {b : Bool} {M : M2} {Q : QT} {x1 : Int32} {x2 : Int32} {x3 : Int32} {x4 : Int32} {x5 : Int32} {x6 : Int32} {u7 : Value} {u8 : Value} (h : brK (48 < (x6 + x2)) (brK (x3 = 0) (Q (some (.int x4)) (FR b, M)) (Q (some (.int x5)) (FR b, M))) (WP (d + 1) 107 127 63 [.ref 4, .int x1, .int x2, .int x3, .int x4, .int x5, .int x6, .int 0, .int x6] [] 107 (FR b, M) Q)) :
    WP (d + 1) 107 127 47 [.ref 4, .int x1, .int x2, .int x3, .int x4, .int x5, .int x6, u7, u8] [] 107 (FR b, M) Q := blk 11 ct127 h
set_option maxRecDepth 100000 in
theorem v127_63 {d : Nat} {b : Bool} {M : M2} {Q : QT} {x1 : Int32} {x2 : Int32} {x3 : Int32} {x4 : Int32} {x5 : Int32} {x6 : Int32} {x7 : Int32} {x8 : Int32} (h : brK ((x6 + x2) ≤ x8) (brK (x7 ≤ x5) (WP (d + 1) 107 127 47 [.ref 4, .int x1, .int x2, .int x3, .int x4, .int x5, .int (x6 + 1), .int x7, .int x8] [] 107 (FR b, M) Q) (WP (d + 1) 107 127 47 [.ref 4, .int x1, .int x2, .int x3, .int x6, .int x7, .int (x6 + 1), .int x7, .int x8] [] 107 (FR b, M) Q)) (WP d 107 15 0 [.ref 54, .int x8] [] 107 (FR b, M) (rI (fun v2 N1 => N1.1 = FR b ∧ (WP d 107 128 0 [.ref 18, .int x1, .int v2, .int (gI N1.2 5 5)] [] 107 (FR b, N1.2) (rI (fun v4 N3 => N3.1 = FR b ∧ (brK (v4 = 0) (WP (d + 1) 107 127 63 [.ref 4, .int x1, .int x2, .int x3, .int x4, .int x5, .int x6, .int (x7 + 0), .int (x8 + 1)] [] 107 (FR b, N3.2) Q) (WP (d + 1) 107 127 63 [.ref 4, .int x1, .int x2, .int x3, .int x4, .int x5, .int x6, .int (x7 + 1), .int (x8 + 1)] [] 107 (FR b, N3.2) Q))))))))) :
    WP (d + 1) 107 127 63 [.ref 4, .int x1, .int x2, .int x3, .int x4, .int x5, .int x6, .int x7, .int x8] [] 107 (FR b, M) Q := blk 26 ct127 h
/- StyliteOverheard$Village.sells(III)Z -/
def ct128 : Nat → Bool := fun _ => false
set_option maxRecDepth 100000 in
theorem v128_0 {d : Nat} {b : Bool} {M : M2} {Q : QT} {x1 : Int32} {x2 : Int32} {x3 : Int32} (h : WP d 107 15 0 [.ref 19, .int x1] [] 107 (FR b, M) (rI (fun v2 N1 => N1.1 = FR b ∧ (brK (((v2 >>> ((x2 &&& 15) &&& 31)) &&& 1) = 0) (Q (some (.int 0)) (FR b, N1.2)) (WP d 107 15 0 [.ref 21, .int x1] [] 107 (FR b, N1.2) (rI (fun v4 N3 => N3.1 = FR b ∧ (brK (x3 < v4) (Q (some (.int 0)) (FR b, N3.2)) (Q (some (.int 1)) (FR b, N3.2)))))))))) :
    WP (d + 1) 107 128 0 [.ref 18, .int x1, .int x2, .int x3] [] 107 (FR b, M) Q := blk 21 ct128 h
/- StyliteOverheard.verdict(II)I -/
def ct129 : Nat → Bool := fun _ => false
set_option maxRecDepth 100000 in
theorem v129_0 {d : Nat} {b : Bool} {M : M2} {Q : QT} {x1 : Int32} {x2 : Int32} {u3 : Value} (h : WP d 107 18 0 [.ref 4, .int x1] [] 107 (FR b, M) (rA (fun N1 => N1.1 = FR b ∧ (Q (some (.int (-1))) (FR b, N1.2))) (fun q2 N1 => N1.1 = FR b ∧ (WP d 107 26 0 [.ref 26, .int x2] [] 107 (FR b, N1.2) (rI (fun v4 N3 => N3.1 = FR b ∧ (brK (v4 = 0) (Q (some (.int (-1))) (FR b, N3.2)) (oK 107 q2 9 (WP d 107 19 0 [.ref q2, .int 0] [] 107 (FR b, N3.2) (rI (fun v6 N5 => N5.1 = FR b ∧ (brK (v6 = 0) (oK 107 q2 9 (WP d 107 66 0 [.ref q2] [] 107 (FR b, N5.2) (rI (fun v13 N12 => N12.1 = FR b ∧ (Q (some (.int v13)) (FR b, N12.2)))))) (WP d 107 130 0 [.ref 26, .ref q2, U] [] 107 (FR b, N5.2) (rV (fun N7 => N7.1 = FR b ∧ (WP d 107 15 0 [.ref 27, .int x2] [] 107 (FR b, N7.2) (rI (fun v9 N8 => N8.1 = FR b ∧ (WP d 107 133 0 [.ref 26, .int v9, .int 0, U, U] [] 107 (FR b, N8.2) (rI (fun v11 N10 => N10.1 = FR b ∧ (Q (some (.int v11)) (FR b, N10.2))))))))))))))))))))))) :
    WP (d + 1) 107 129 0 [.ref 4, .int x1, .int x2, u3] [] 107 (FR b, M) Q := blk 30 ct129 h
/- StyliteOverheard$Schools.hear(LStyliteOverheard$Shelf;)V -/
def ct130 : Nat → Bool := fun pc => Nat.beq pc 12
set_option maxRecDepth 100000 in
theorem v130_0 {d : Nat} {b : Bool} {M : M2} {Q : QT} {r1 : Nat} {u2 : Value} (h : WP d 107 131 0 [.ref 26, .int 0, U] [] 107 (FR b, sI M 26 2 0) (rV (fun N1 => N1.1 = FR b ∧ (WP (d + 1) 107 130 12 [.ref 26, .ref r1, .int 0] [] 107 (FR b, N1.2) Q)))) :
    WP (d + 1) 107 130 0 [.ref 26, .ref r1, u2] [] 107 (FR b, M) Q := blk 10 ct130 h
set_option maxRecDepth 100000 in
theorem v130_12 {d : Nat} {b : Bool} {M : M2} {Q : QT} {r1 : Nat} {x2 : Int32} (h : oK 107 r1 9 (brK ((gI M r1 3) ≤ x2) (Q none (FR b, M)) (oK 107 r1 9 (WP d 107 70 0 [.ref r1, .int x2] [] 107 (FR b, M) (rI (fun v2 N1 => N1.1 = FR b ∧ (WP d 107 78 0 [.int v2] [] 107 (FR b, N1.2) (rI (fun v4 N3 => N3.1 = FR b ∧ (brK (v4 = 0) (Q none (FR b, N3.2)) (oK 107 r1 9 (WP d 107 70 0 [.ref r1, .int x2] [] 107 (FR b, N3.2) (rI (fun v6 N5 => N5.1 = FR b ∧ (WP d 107 132 0 [.ref 26, .int 0, .int v6] [] 107 (FR b, N5.2) (rV (fun N7 => N7.1 = FR b ∧ (WP (d + 1) 107 130 12 [.ref 26, .ref r1, .int (x2 + 1)] [] 107 (FR b, N7.2) Q)))))))))))))))))) :
    WP (d + 1) 107 130 12 [.ref 26, .ref r1, .int x2] [] 107 (FR b, M) Q := blk 19 ct130 h
/- StyliteOverheard$Schools.clearPhrase(I)V -/
def ct131 : Nat → Bool := fun pc => Nat.beq pc 23
set_option maxRecDepth 100000 in
theorem v131_0 {d : Nat} {b : Bool} {M : M2} {Q : QT} {x1 : Int32} {u2 : Value} (h : brK (x1 < 0) (Q none (FR b, M)) (brK (x1 < 12) (iK x1 12 (WP (d + 1) 107 131 23 [.ref 26, .int x1, .int (x1 * 16)] [] 107 (FR b, sI M 29 (ix x1) 0) Q)) (Q none (FR b, M)))) :
    WP (d + 1) 107 131 0 [.ref 26, .int x1, u2] [] 107 (FR b, M) Q := blk 16 ct131 h
set_option maxRecDepth 100000 in
theorem v131_23 {d : Nat} {b : Bool} {M : M2} {Q : QT} {x1 : Int32} {x2 : Int32} (h : brK (((x1 + 1) * 16) ≤ x2) (Q none (FR b, M)) (iK x2 192 (WP (d + 1) 107 131 23 [.ref 26, .int x1, .int (x2 + 1)] [] 107 (FR b, sI M 28 (ix x2) 0) Q))) :
    WP (d + 1) 107 131 23 [.ref 26, .int x1, .int x2] [] 107 (FR b, M) Q := blk 16 ct131 h
/- StyliteOverheard$Schools.addThing(II)V -/
def ct132 : Nat → Bool := fun _ => false
set_option maxRecDepth 100000 in
theorem v132_0 {d : Nat} {b : Bool} {M : M2} {Q : QT} {x1 : Int32} {x2 : Int32} (h : brK (x1 < 0) (Q none (FR b, M)) (brK (12 ≤ x1) (Q none (FR b, M)) (WP d 107 78 0 [.int x2] [] 107 (FR b, M) (rI (fun v2 N1 => N1.1 = FR b ∧ (brK (v2 = 0) (Q none (FR b, N1.2)) (iK ((x1 * 16) + x2) 192 (iK ((x1 * 16) + x2) 192 (iK x1 12 (iK x1 12 (Q none (FR b, sI (sI N1.2 28 (ix ((x1 * 16) + x2)) ((gI N1.2 28 (ix ((x1 * 16) + x2))) + 1)) 29 (ix x1) ((gI N1.2 29 (ix x1)) + 1))))))))))))) :
    WP (d + 1) 107 132 0 [.ref 26, .int x1, .int x2] [] 107 (FR b, M) Q := blk 30 ct132 h
/- StyliteOverheard$Schools.saidBy(II)I -/
def ct133 : Nat → Bool := fun pc => Nat.beq pc 13
set_option maxRecDepth 100000 in
theorem v133_0 {d : Nat} {b : Bool} {M : M2} {Q : QT} {x1 : Int32} {x2 : Int32} {u3 : Value} {u4 : Value} (h : WP d 107 15 0 [.ref 29, .int x2] [] 107 (FR b, M) (rI (fun v2 N1 => N1.1 = FR b ∧ (WP (d + 1) 107 133 13 [.ref 26, .int x1, .int x2, .int (-v2), .int 0] [] 107 (FR b, N1.2) Q)))) :
    WP (d + 1) 107 133 0 [.ref 26, .int x1, .int x2, u3, u4] [] 107 (FR b, M) Q := blk 10 ct133 h
set_option maxRecDepth 100000 in
theorem v133_13 {d : Nat} {b : Bool} {M : M2} {Q : QT} {x1 : Int32} {x2 : Int32} {x3 : Int32} {x4 : Int32} (h : brK (16 ≤ x4) (brK (x3 = 0) (Q (some (.int (-2))) (FR b, M)) (brK (x3 ≤ 0) (Q (some (.int 0)) (FR b, M)) (Q (some (.int 1)) (FR b, M)))) (WP d 107 15 0 [.ref 28, .int ((x2 * 16) + x4)] [] 107 (FR b, M) (rI (fun v2 N1 => N1.1 = FR b ∧ (WP (d + 1) 107 133 13 [.ref 26, .int x1, .int x2, .int (x3 + ((((x1 >>> (x4 &&& 31)) &&& 1) * 2) * v2)), .int (x4 + 1)] [] 107 (FR b, N1.2) Q))))) :
    WP (d + 1) 107 133 13 [.ref 26, .int x1, .int x2, .int x3, .int x4] [] 107 (FR b, M) Q := blk 26 ct133 h
/- StyliteOverheard.clash(II)I -/
def ct134 : Nat → Bool := fun _ => false
set_option maxRecDepth 100000 in
theorem v134_0 {d : Nat} {b : Bool} {M : M2} {Q : QT} {x1 : Int32} {x2 : Int32} {u3 : Value} (h : WP d 107 18 0 [.ref 4, .int x1] [] 107 (FR b, M) (rA (fun N1 => N1.1 = FR b ∧ (Q (some (.int (-1))) (FR b, N1.2))) (fun q2 N1 => N1.1 = FR b ∧ (WP d 107 26 0 [.ref 26, .int x2] [] 107 (FR b, N1.2) (rI (fun v4 N3 => N3.1 = FR b ∧ (brK (v4 = 0) (Q (some (.int (-1))) (FR b, N3.2)) (oK 107 q2 9 (WP d 107 19 0 [.ref q2, .int 0] [] 107 (FR b, N3.2) (rI (fun v6 N5 => N5.1 = FR b ∧ (brK (v6 = 0) (oK 107 q2 9 (WP d 107 66 0 [.ref q2] [] 107 (FR b, N5.2) (rI (fun v11 N10 => N10.1 = FR b ∧ (Q (some (.int v11)) (FR b, N10.2)))))) (WP d 107 130 0 [.ref 26, .ref q2, U] [] 107 (FR b, N5.2) (rV (fun N7 => N7.1 = FR b ∧ (WP d 107 135 0 [.ref 26, .int x2, U, U, U, U] [] 107 (FR b, N7.2) (rI (fun v9 N8 => N8.1 = FR b ∧ (Q (some (.int v9)) (FR b, N8.2)))))))))))))))))))) :
    WP (d + 1) 107 134 0 [.ref 4, .int x1, .int x2, u3] [] 107 (FR b, M) Q := blk 25 ct134 h
/- StyliteOverheard$Schools.against(I)I -/
def ct135 : Nat → Bool := fun pc => Nat.beq pc 19
set_option maxRecDepth 100000 in
theorem v135_0 {d : Nat} {b : Bool} {M : M2} {Q : QT} {x1 : Int32} {u2 : Value} {u3 : Value} {u4 : Value} {u5 : Value} (h : WP d 107 15 0 [.ref 27, .int x1] [] 107 (FR b, M) (rI (fun v2 N1 => N1.1 = FR b ∧ (WP d 107 133 0 [.ref 26, .int v2, .int 0, U, U] [] 107 (FR b, N1.2) (rI (fun v4 N3 => N3.1 = FR b ∧ (WP (d + 1) 107 135 19 [.ref 26, .int x1, .int v4, .int 0, .int 0, u5] [] 107 (FR b, N3.2) Q))))))) :
    WP (d + 1) 107 135 0 [.ref 26, .int x1, u2, u3, u4, u5] [] 107 (FR b, M) Q := blk 14 ct135 h
set_option maxRecDepth 100000 in
theorem v135_19 {d : Nat} {b : Bool} {M : M2} {Q : QT} {u1 : Value} {x2 : Int32} {x3 : Int32} {x4 : Int32} {u5 : Value} (h : brK ((gI M 26 0) ≤ x4) (Q (some (.int x3)) (FR b, M)) (brK (x2 = (-2)) (Q (some (.int x3)) (FR b, M)) (WP d 107 15 0 [.ref 27, .int x4] [] 107 (FR b, M) (rI (fun v2 N1 => N1.1 = FR b ∧ (WP d 107 133 0 [.ref 26, .int v2, .int 0, U, U] [] 107 (FR b, N1.2) (rI (fun v4 N3 => N3.1 = FR b ∧ (brK (v4 = (-2)) (WP (d + 1) 107 135 19 [.ref 26, u1, .int x2, .int x3, .int (x4 + 1), .int v4] [] 107 (FR b, N3.2) Q) (brK (v4 = x2) (WP (d + 1) 107 135 19 [.ref 26, u1, .int x2, .int x3, .int (x4 + 1), .int v4] [] 107 (FR b, N3.2) Q) (WP (d + 1) 107 135 19 [.ref 26, u1, .int x2, .int (x3 ||| (1 <<< (x4 &&& 31))), .int (x4 + 1), .int v4] [] 107 (FR b, N3.2) Q))))))))))) :
    WP (d + 1) 107 135 19 [.ref 26, u1, .int x2, .int x3, .int x4, u5] [] 107 (FR b, M) Q := blk 31 ct135 h
/- StyliteOverheard.judge(II)I -/
def ct136 : Nat → Bool := fun _ => false
set_option maxRecDepth 100000 in
theorem v136_0 {d : Nat} {b : Bool} {M : M2} {Q : QT} {x1 : Int32} {x2 : Int32} {u3 : Value} (h : WP d 107 18 0 [.ref 4, .int x1] [] 107 (FR b, M) (rA (fun N1 => N1.1 = FR b ∧ (Q (some (.int (-1))) (FR b, N1.2))) (fun q2 N1 => N1.1 = FR b ∧ (WP d 107 26 0 [.ref 26, .int x2] [] 107 (FR b, N1.2) (rI (fun v4 N3 => N3.1 = FR b ∧ (brK (v4 = 0) (Q (some (.int (-1))) (FR b, N3.2)) (oK 107 q2 9 (WP d 107 19 0 [.ref q2, .int 0] [] 107 (FR b, N3.2) (rI (fun v6 N5 => N5.1 = FR b ∧ (brK (v6 = 0) (oK 107 q2 9 (WP d 107 66 0 [.ref q2] [] 107 (FR b, N5.2) (rI (fun v13 N12 => N12.1 = FR b ∧ (Q (some (.int v13)) (FR b, N12.2)))))) (WP d 107 137 0 [.ref 26, .ref q2, U, U] [] 107 (FR b, N5.2) (rV (fun N7 => N7.1 = FR b ∧ (WP d 107 15 0 [.ref 27, .int x2] [] 107 (FR b, N7.2) (rI (fun v9 N8 => N8.1 = FR b ∧ (WP d 107 138 0 [.ref 26, .int v9, U] [] 107 (FR b, N8.2) (rI (fun v11 N10 => N10.1 = FR b ∧ (Q (some (.int v11)) (FR b, N10.2))))))))))))))))))))))) :
    WP (d + 1) 107 136 0 [.ref 4, .int x1, .int x2, u3] [] 107 (FR b, M) Q := blk 29 ct136 h
/- StyliteOverheard$Schools.gather(LStyliteOverheard$Shelf;)V -/
def ct137 : Nat → Bool := fun pc => Nat.beq pc 12 || Nat.beq pc 85
set_option maxRecDepth 100000 in
theorem v137_0 {d : Nat} {b : Bool} {M : M2} {Q : QT} {r1 : Nat} {u2 : Value} {u3 : Value} (h : WP d 107 131 0 [.ref 26, .int 0, U] [] 107 (FR b, sI M 26 2 0) (rV (fun N1 => N1.1 = FR b ∧ (WP (d + 1) 107 137 12 [.ref 26, .ref r1, .int 0, u3] [] 107 (FR b, N1.2) Q)))) :
    WP (d + 1) 107 137 0 [.ref 26, .ref r1, u2, u3] [] 107 (FR b, M) Q := blk 10 ct137 h
set_option maxRecDepth 100000 in
theorem v137_12 {d : Nat} {b : Bool} {M : M2} {Q : QT} {r1 : Nat} {x2 : Int32} {u3 : Value} (h : oK 107 r1 9 (brK ((gI M r1 3) ≤ x2) (Q none (FR b, M)) (brK (12 ≤ (gI M 26 2)) (Q none (FR b, M)) (oK 107 r1 9 (WP d 107 70 0 [.ref r1, .int x2] [] 107 (FR b, M) (rI (fun v2 N1 => N1.1 = FR b ∧ (WP d 107 78 0 [.int v2] [] 107 (FR b, N1.2) (rI (fun v4 N3 => N3.1 = FR b ∧ (brK (v4 = 0) (brK (v2 = 16) (brK (v2 = 16) (WP (d + 1) 107 137 85 [.ref 26, .ref r1, .int x2, .int v2] [.int 1, .int (gI N3.2 26 2), .ref 30] 107 (FR b, N3.2) Q) (WP (d + 1) 107 137 85 [.ref 26, .ref r1, .int x2, .int v2] [.int 0, .int (gI N3.2 26 2), .ref 30] 107 (FR b, N3.2) Q)) (brK (v2 = 17) (brK (v2 = 16) (WP (d + 1) 107 137 85 [.ref 26, .ref r1, .int x2, .int v2] [.int 1, .int (gI N3.2 26 2), .ref 30] 107 (FR b, N3.2) Q) (WP (d + 1) 107 137 85 [.ref 26, .ref r1, .int x2, .int v2] [.int 0, .int (gI N3.2 26 2), .ref 30] 107 (FR b, N3.2) Q)) (Q none (FR b, N3.2)))) (WP d 107 132 0 [.ref 26, .int (gI N3.2 26 2), .int v2] [] 107 (FR b, N3.2) (rV (fun N5 => N5.1 = FR b ∧ (WP (d + 1) 107 137 12 [.ref 26, .ref r1, .int (x2 + 1), .int v2] [] 107 (FR b, N5.2) Q))))))))))))))) :
    WP (d + 1) 107 137 12 [.ref 26, .ref r1, .int x2, u3] [] 107 (FR b, M) Q := blk 32 ct137 h
set_option maxRecDepth 100000 in
theorem v137_85 {d : Nat} {b : Bool} {M : M2} {Q : QT} {r1 : Nat} {x2 : Int32} {u3 : Value} {s0 : Int32} {s1 : Int32} (h : iK s1 12 (WP d 107 131 0 [.ref 26, .int ((gI M 26 2) + 1), U] [] 107 (FR b, sI (sI M 30 (ix s1) s0) 26 2 ((gI M 26 2) + 1)) (rV (fun N1 => N1.1 = FR b ∧ (WP (d + 1) 107 137 12 [.ref 26, .ref r1, .int (x2 + 1), u3] [] 107 (FR b, N1.2) Q))))) :
    WP (d + 1) 107 137 85 [.ref 26, .ref r1, .int x2, u3] [.int s0, .int s1, .ref 30] 107 (FR b, M) Q := blk 16 ct137 h
/- StyliteOverheard$Schools.firstOtherwise(I)I -/
def ct138 : Nat → Bool := fun pc => Nat.beq pc 2
set_option maxRecDepth 100000 in
theorem v138_0 {d : Nat} {b : Bool} {M : M2} {Q : QT} {x1 : Int32} {u2 : Value} (h : WP (d + 1) 107 138 2 [.ref 26, .int x1, .int 0] [] 107 (FR b, M) Q) :
    WP (d + 1) 107 138 0 [.ref 26, .int x1, u2] [] 107 (FR b, M) Q := blk 4 ct138 h
set_option maxRecDepth 100000 in
theorem v138_2 {d : Nat} {b : Bool} {M : M2} {Q : QT} {x1 : Int32} {x2 : Int32} (h : brK ((gI M 26 2) ≤ x2) (Q (some (.int (-2))) (FR b, M)) (WP d 107 133 0 [.ref 26, .int x1, .int x2, U, U] [] 107 (FR b, M) (rI (fun v2 N1 => N1.1 = FR b ∧ (WP d 107 15 0 [.ref 30, .int x2] [] 107 (FR b, N1.2) (rI (fun v4 N3 => N3.1 = FR b ∧ (brK (v2 = v4) (WP (d + 1) 107 138 2 [.ref 26, .int x1, .int (x2 + 1)] [] 107 (FR b, N3.2) Q) (Q (some (.int x2)) (FR b, N3.2)))))))))) :
    WP (d + 1) 107 138 2 [.ref 26, .int x1, .int x2] [] 107 (FR b, M) Q := blk 17 ct138 h
/- StyliteOverheard.read(II)I -/
def ct139 : Nat → Bool := fun _ => false
set_option maxRecDepth 100000 in
theorem v139_0 {d : Nat} {b : Bool} {M : M2} {Q : QT} {x1 : Int32} {x2 : Int32} {u3 : Value} {u4 : Value} (h : WP d 107 18 0 [.ref 4, .int x1] [] 107 (FR b, M) (rA (fun N1 => N1.1 = FR b ∧ (Q (some (.int (-1))) (FR b, N1.2))) (fun q2 N1 => N1.1 = FR b ∧ (WP d 107 79 0 [.int x2] [] 107 (FR b, N1.2) (rI (fun v4 N3 => N3.1 = FR b ∧ (brK (v4 = 0) (Q (some (.int (-1))) (FR b, N3.2)) (oK 107 q2 9 (WP d 107 19 0 [.ref q2, .int 0] [] 107 (FR b, N3.2) (rI (fun v6 N5 => N5.1 = FR b ∧ (brK (v6 = 0) (oK 107 q2 9 (WP d 107 66 0 [.ref q2] [] 107 (FR b, N5.2) (rI (fun v13 N12 => N12.1 = FR b ∧ (Q (some (.int v13)) (FR b, N12.2)))))) (WP d 107 137 0 [.ref 26, .ref q2, U, U] [] 107 (FR b, N5.2) (rV (fun N7 => N7.1 = FR b ∧ (WP d 107 140 0 [.ref 26, U, U] [] 107 (FR b, N7.2) (rI (fun v9 N8 => N8.1 = FR b ∧ (brK (0 ≤ v9) (brK (x2 = 0) (WP d 107 110 0 [.int v9] [] 107 (FR b, N8.2) (rI (fun v11 N10 => N10.1 = FR b ∧ (Q (some (.int v11)) (FR b, N10.2))))) (Q (some (.int v9)) (FR b, N8.2))) (Q (some (.int (-2))) (FR b, N8.2))))))))))))))))))))) :
    WP (d + 1) 107 139 0 [.ref 4, .int x1, .int x2, u3, u4] [] 107 (FR b, M) Q := blk 30 ct139 h
/- StyliteOverheard$Schools.fewestYes()I -/
def ct140 : Nat → Bool := fun pc => Nat.beq pc 7 || Nat.beq pc 30 || Nat.beq pc 92 || Nat.beq pc 115 || Nat.beq pc 164
set_option maxRecDepth 100000 in
theorem v140_0 {d : Nat} {b : Bool} {M : M2} {Q : QT} {u1 : Value} {u2 : Value} (h : WP (d + 1) 107 140 7 [.ref 26, .int 0, u2] [] 107 (FR b, sI M 26 8 0) Q) :
    WP (d + 1) 107 140 0 [.ref 26, u1, u2] [] 107 (FR b, M) Q := blk 7 ct140 h
set_option maxRecDepth 100000 in
theorem v140_7 {d : Nat} {b : Bool} {M : M2} {Q : QT} {x1 : Int32} {u2 : Value} (h : brK ((gI M 26 2) ≤ x1) (WP (d + 1) 107 140 92 [.ref 26, .int 0, u2] [] 107 (FR b, M) Q) (brK (12 ≤ x1) (WP (d + 1) 107 140 92 [.ref 26, .int 0, u2] [] 107 (FR b, M) Q) (iK x1 12 (WP (d + 1) 107 140 30 [.ref 26, .int x1, .int 0] [] 107 (FR b, sI M 31 (ix x1) 0) Q)))) :
    WP (d + 1) 107 140 7 [.ref 26, .int x1, u2] [] 107 (FR b, M) Q := blk 16 ct140 h
set_option maxRecDepth 100000 in
theorem v140_30 {d : Nat} {b : Bool} {M : M2} {Q : QT} {x1 : Int32} {x2 : Int32} (h : brK (16 ≤ x2) (WP (d + 1) 107 140 7 [.ref 26, .int (x1 + 1), .int x2] [] 107 (FR b, M) Q) (iK x1 12 (brK ((gI M 30 (ix x1)) = 1) (WP d 107 15 0 [.ref 28, .int ((x1 * 16) + x2)] [] 107 (FR b, M) (rI (fun v2 N1 => N1.1 = FR b ∧ (brK (v2 ≤ 0) (WP (d + 1) 107 140 30 [.ref 26, .int x1, .int (x2 + 1)] [] 107 (FR b, sI N1.2 26 8 ((gI M 26 8) ||| 0)) Q) (WP (d + 1) 107 140 30 [.ref 26, .int x1, .int (x2 + 1)] [] 107 (FR b, sI N1.2 26 8 ((gI M 26 8) ||| (1 <<< (x2 &&& 31)))) Q))))) (WP (d + 1) 107 140 7 [.ref 26, .int (x1 + 1), .int x2] [] 107 (FR b, M) Q)))) :
    WP (d + 1) 107 140 30 [.ref 26, .int x1, .int x2] [] 107 (FR b, M) Q := blk 31 ct140 h
set_option maxRecDepth 100000 in
theorem v140_92 {d : Nat} {b : Bool} {M : M2} {Q : QT} {x1 : Int32} {u2 : Value} (h : brK ((gI M 26 2) ≤ x1) (WP (d + 1) 107 140 164 [.ref 26, .int x1, u2] [] 107 (FR b, M) Q) (brK (12 ≤ x1) (WP (d + 1) 107 140 164 [.ref 26, .int x1, u2] [] 107 (FR b, M) Q) (iK x1 12 (WP (d + 1) 107 140 115 [.ref 26, .int x1, .int 0] [] 107 (FR b, sI M 32 (ix x1) 0) Q)))) :
    WP (d + 1) 107 140 92 [.ref 26, .int x1, u2] [] 107 (FR b, M) Q := blk 16 ct140 h
set_option maxRecDepth 100000 in
theorem v140_115 {d : Nat} {b : Bool} {M : M2} {Q : QT} {x1 : Int32} {x2 : Int32} (h : brK (16 ≤ x2) (WP (d + 1) 107 140 92 [.ref 26, .int (x1 + 1), .int x2] [] 107 (FR b, M) Q) (iK x1 12 (WP d 107 15 0 [.ref 28, .int ((x1 * 16) + x2)] [] 107 (FR b, M) (rI (fun v2 N1 => N1.1 = FR b ∧ (iK x1 12 (WP (d + 1) 107 140 115 [.ref 26, .int x1, .int (x2 + 1)] [] 107 (FR b, sI N1.2 32 (ix x1) ((gI M 32 (ix x1)) + ((((gI M 26 8) >>> (x2 &&& 31)) &&& 1) * v2))) Q))))))) :
    WP (d + 1) 107 140 115 [.ref 26, .int x1, .int x2] [] 107 (FR b, M) Q := blk 29 ct140 h
set_option maxRecDepth 100000 in
theorem v140_164 {d : Nat} {b : Bool} {M : M2} {Q : QT} {u1 : Value} {u2 : Value} (h : WP d 107 141 0 [.ref 26, .int 15, .int 0, U] [] 107 (FR b, sI (sI M 26 9 99) 26 10 (-1)) (rV (fun N1 => N1.1 = FR b ∧ (Q (some (.int (gI N1.2 26 10))) (FR b, N1.2))))) :
    WP (d + 1) 107 140 164 [.ref 26, u1, u2] [] 107 (FR b, M) Q := blk 14 ct140 h
/- StyliteOverheard$Schools.choose(LStyliteOverheard$Schools;II)V -/
def ct141 : Nat → Bool := fun _ => false
set_option maxRecDepth 100000 in
theorem v141_0 {d : Nat} {b : Bool} {M : M2} {Q : QT} {x1 : Int32} {x2 : Int32} {u3 : Value} (h : WP d 107 110 0 [.int x2] [] 107 (FR b, M) (rI (fun v2 N1 => N1.1 = FR b ∧ (brK ((gI N1.2 26 9) ≤ v2) (Q none (FR b, N1.2)) (WP d 107 142 0 [.ref 26, U, U] [] 107 (FR b, N1.2) (rI (fun v4 N3 => N3.1 = FR b ∧ (brK (v4 = 0) (Q none (FR b, N3.2)) (brK (0 ≤ x1) (brK ((((gI N3.2 26 8) >>> (x1 &&& 31)) &&& 1) = 0) (WP d 107 141 0 [.ref 26, .int (x1 - 1), .int x2, U] [] 107 (FR b, N3.2) (rV (fun N10 => N10.1 = FR b ∧ (Q none (FR b, N10.2))))) (WP d 107 143 0 [.ref 26, .int x1, .int 0, .int 1, U, U] [] 107 (FR b, N3.2) (rV (fun N5 => N5.1 = FR b ∧ (WP d 107 141 0 [.ref 26, .int (x1 - 1), .int x2, U] [] 107 (FR b, N5.2) (rV (fun N6 => N6.1 = FR b ∧ (WP d 107 143 0 [.ref 26, .int x1, .int 1, .int 0, U, U] [] 107 (FR b, N6.2) (rV (fun N7 => N7.1 = FR b ∧ (WP d 107 141 0 [.ref 26, .int (x1 - 1), .int (x2 ||| (1 <<< (x1 &&& 31))), U] [] 107 (FR b, N7.2) (rV (fun N8 => N8.1 = FR b ∧ (WP d 107 143 0 [.ref 26, .int x1, .int (-1), .int (-1), U, U] [] 107 (FR b, N8.2) (rV (fun N9 => N9.1 = FR b ∧ (Q none (FR b, N9.2)))))))))))))))))) (Q none (FR b, sI (sI N3.2 26 9 v2) 26 10 x2))))))))))) :
    WP (d + 1) 107 141 0 [.ref 26, .int x1, .int x2, u3] [] 107 (FR b, M) Q := blk 52 ct141 h
/- StyliteOverheard$Schools.maySucceed()Z -/
def ct142 : Nat → Bool := fun pc => Nat.beq pc 2
set_option maxRecDepth 100000 in
theorem v142_0 {d : Nat} {b : Bool} {M : M2} {Q : QT} {u1 : Value} {u2 : Value} (h : WP (d + 1) 107 142 2 [.ref 26, .int 0, u2] [] 107 (FR b, M) Q) :
    WP (d + 1) 107 142 0 [.ref 26, u1, u2] [] 107 (FR b, M) Q := blk 4 ct142 h
set_option maxRecDepth 100000 in
theorem v142_2 {d : Nat} {b : Bool} {M : M2} {Q : QT} {x1 : Int32} {u2 : Value} (h : brK ((gI M 26 2) ≤ x1) (Q (some (.int 1)) (FR b, M)) (brK (12 ≤ x1) (Q (some (.int 1)) (FR b, M)) (iK x1 12 (brK ((gI M 30 (ix x1)) = 1) (iK x1 12 (iK x1 12 (iK x1 12 (brK ((gI M 29 (ix x1)) < (2 * ((gI M 31 (ix x1)) + (gI M 32 (ix x1))))) (brK ((0 : Int32) = 0) (WP (d + 1) 107 142 2 [.ref 26, .int (x1 + 1), .int 0] [] 107 (FR b, M) Q) (Q (some (.int 0)) (FR b, M))) (brK ((1 : Int32) = 0) (WP (d + 1) 107 142 2 [.ref 26, .int (x1 + 1), .int 1] [] 107 (FR b, M) Q) (Q (some (.int 0)) (FR b, M))))))) (iK x1 12 (iK x1 12 (brK ((2 * (gI M 31 (ix x1))) < (gI M 29 (ix x1))) (brK ((0 : Int32) = 0) (WP (d + 1) 107 142 2 [.ref 26, .int (x1 + 1), .int 0] [] 107 (FR b, M) Q) (Q (some (.int 0)) (FR b, M))) (brK ((1 : Int32) = 0) (WP (d + 1) 107 142 2 [.ref 26, .int (x1 + 1), .int 1] [] 107 (FR b, M) Q) (Q (some (.int 0)) (FR b, M)))))))))) :
    WP (d + 1) 107 142 2 [.ref 26, .int x1, u2] [] 107 (FR b, M) Q := blk 38 ct142 h
/- StyliteOverheard$Schools.decide(III)V -/
def ct143 : Nat → Bool := fun pc => Nat.beq pc 3
set_option maxRecDepth 100000 in
theorem v143_0 {d : Nat} {b : Bool} {M : M2} {Q : QT} {x1 : Int32} {x2 : Int32} {x3 : Int32} {u4 : Value} {u5 : Value} (h : WP (d + 1) 107 143 3 [.ref 26, .int x1, .int x2, .int x3, .int 0, u5] [] 107 (FR b, M) Q) :
    WP (d + 1) 107 143 0 [.ref 26, .int x1, .int x2, .int x3, u4, u5] [] 107 (FR b, M) Q := blk 4 ct143 h
set_option maxRecDepth 100000 in
theorem v143_3 {d : Nat} {b : Bool} {M : M2} {Q : QT} {x1 : Int32} {x2 : Int32} {x3 : Int32} {x4 : Int32} {u5 : Value} (h : brK ((gI M 26 2) ≤ x4) (Q none (FR b, M)) (brK (12 ≤ x4) (Q none (FR b, M)) (WP d 107 15 0 [.ref 28, .int ((x4 * 16) + x1)] [] 107 (FR b, M) (rI (fun v2 N1 => N1.1 = FR b ∧ (iK x4 12 (iK x4 12 (iK x4 12 (iK x4 12 (WP (d + 1) 107 143 3 [.ref 26, .int x1, .int x2, .int x3, .int (x4 + 1), .int v2] [] 107 (FR b, sI (sI N1.2 31 (ix x4) ((gI N1.2 31 (ix x4)) + (x2 * v2))) 32 (ix x4) ((gI N1.2 32 (ix x4)) - (x3 * v2))) Q)))))))))) :
    WP (d + 1) 107 143 3 [.ref 26, .int x1, .int x2, .int x3, .int x4, u5] [] 107 (FR b, M) Q := blk 40 ct143 h
/- StyliteOverheard.drawn(IIII)I -/
def ct144 : Nat → Bool := fun pc => Nat.beq pc 94 || Nat.beq pc 115 || Nat.beq pc 167 || Nat.beq pc 207
set_option maxRecDepth 100000 in
theorem v144_0 {d : Nat} {b : Bool} {M : M2} {Q : QT} {x1 : Int32} {x2 : Int32} {x3 : Int32} {x4 : Int32} {u5 : Value} {u6 : Value} {u7 : Value} {u8 : Value} {u9 : Value} {u10 : Value} {u11 : Value} {u12 : Value} {u13 : Value} {u14 : Value} (h : brK (x2 < 0) (Q (some (.int (-1))) (FR b, M)) (brK ((x2 / 100) < 1) (Q (some (.int (-1))) (FR b, M)) (brK (30 < (x2 / 100)) (Q (some (.int (-1))) (FR b, M)) (brK ((x2 - x2 / 100 * 100) < 1) (Q (some (.int (-1))) (FR b, M)) (brK (24 < (x2 - x2 / 100 * 100)) (Q (some (.int (-1))) (FR b, M)) (WP d 107 79 0 [.int x4] [] 107 (FR b, M) (rI (fun v2 N1 => N1.1 = FR b ∧ (brK (v2 = 0) (Q (some (.int (-1))) (FR b, N1.2)) (brK (x3 < 0) (Q (some (.int (-1))) (FR b, N1.2)) (WP d 107 78 0 [.int (x3 / 100)] [] 107 (FR b, N1.2) (rI (fun v4 N3 => N3.1 = FR b ∧ (brK (v4 = 0) (Q (some (.int (-1))) (FR b, N3.2)) (brK ((x3 - x3 / 100 * 100) ≤ 12) (WP (d + 1) 107 144 94 [.ref 4, .int x1, .int x2, .int x3, .int x4, .int (x2 / 100), .int (x2 - x2 / 100 * 100), .int (x3 / 100), .int (x3 - x3 / 100 * 100), .int x1, .int 0, .int 0, u12, u13, u14] [] 107 (FR b, N3.2) Q) (Q (some (.int (-1))) (FR b, N3.2))))))))))))))))) :
    WP (d + 1) 107 144 0 [.ref 4, .int x1, .int x2, .int x3, .int x4, u5, u6, u7, u8, u9, u10, u11, u12, u13, u14] [] 107 (FR b, M) Q := blk 49 ct144 h
set_option maxRecDepth 100000 in
theorem v144_94 {d : Nat} {b : Bool} {M : M2} {Q : QT} {u1 : Value} {u2 : Value} {u3 : Value} {x4 : Int32} {x5 : Int32} {x6 : Int32} {x7 : Int32} {x8 : Int32} {x9 : Int32} {x10 : Int32} {x11 : Int32} {u12 : Value} {u13 : Value} {u14 : Value} (h : brK (x5 ≤ x11) (Q (some (.int x10)) (FR b, M)) (WP d 107 68 0 [.ref 6, .ref 5] [] 107 (FR b, M) (rV (fun N1 => N1.1 = FR b ∧ (WP (d + 1) 107 144 115 [.ref 4, u1, u2, u3, .int x4, .int x5, .int x6, .int x7, .int x8, .int x9, .int x10, .int x11, .int 0, u13, u14] [] 107 (FR b, N1.2) Q))))) :
    WP (d + 1) 107 144 94 [.ref 4, u1, u2, u3, .int x4, .int x5, .int x6, .int x7, .int x8, .int x9, .int x10, .int x11, u12, u13, u14] [] 107 (FR b, M) Q := blk 12 ct144 h
set_option maxRecDepth 100000 in
theorem v144_115 {d : Nat} {b : Bool} {M : M2} {Q : QT} {u1 : Value} {u2 : Value} {u3 : Value} {x4 : Int32} {x5 : Int32} {x6 : Int32} {x7 : Int32} {x8 : Int32} {x9 : Int32} {x10 : Int32} {x11 : Int32} {x12 : Int32} {u13 : Value} {u14 : Value} (h : brK (x6 ≤ x12) (WP (d + 1) 107 144 94 [.ref 4, u1, u2, u3, .int x4, .int x5, .int x6, .int x7, .int x8, .int x9, .int x10, .int (x11 + 1), .int x12, u13, u14] [] 107 (FR b, M) Q) (brK (x8 ≤ (((((x9 * 1103515245) + 12345).toUInt32 >>> ((16 : Int32).toUInt32 &&& Int32.toUInt32 31)).toInt32) - ((((x9 * 1103515245) + 12345).toUInt32 >>> ((16 : Int32).toUInt32 &&& Int32.toUInt32 31)).toInt32) / 12 * 12)) (WP (d + 1) 107 144 167 [.ref 4, u1, u2, u3, .int x4, .int x5, .int x6, .int x7, .int x8, .int ((x9 * 1103515245) + 12345), .int x10, .int x11, .int x12, u13, u14] [.int 0, .ref 7, .ref 6] 107 (FR b, M) Q) (WP (d + 1) 107 144 167 [.ref 4, u1, u2, u3, .int x4, .int x5, .int x6, .int x7, .int x8, .int ((x9 * 1103515245) + 12345), .int x10, .int x11, .int x12, u13, u14] [.int (((((x9 * 1103515245) + 12345).toUInt32 >>> ((8 : Int32).toUInt32 &&& Int32.toUInt32 31)).toInt32) - ((((x9 * 1103515245) + 12345).toUInt32 >>> ((8 : Int32).toUInt32 &&& Int32.toUInt32 31)).toInt32) / 10 * 10), .ref 7, .ref 6] 107 (FR b, M) Q))) :
    WP (d + 1) 107 144 115 [.ref 4, u1, u2, u3, .int x4, .int x5, .int x6, .int x7, .int x8, .int x9, .int x10, .int x11, .int x12, u13, u14] [] 107 (FR b, M) Q := blk 28 ct144 h
set_option maxRecDepth 100000 in
theorem v144_167 {d : Nat} {b : Bool} {M : M2} {Q : QT} {u1 : Value} {u2 : Value} {u3 : Value} {x4 : Int32} {x5 : Int32} {x6 : Int32} {x7 : Int32} {x8 : Int32} {x9 : Int32} {x10 : Int32} {x11 : Int32} {x12 : Int32} {u13 : Value} {u14 : Value} {s0 : Int32} (h : WP d 107 71 0 [.ref 6, .ref 7, .int s0, U, U] [] 107 (FR b, M) (rI (fun v2 N1 => N1.1 = FR b ∧ (brK (x4 = 0) (brK (v2 < 16) (WP (d + 1) 107 144 207 [.ref 4, u1, u2, u3, .int x4, .int x5, .int x6, .int x7, .int x8, .int x9, .int x10, .int x11, .int x12, .int v2, u14] [.int 0] 107 (FR b, N1.2) Q) (WP (d + 1) 107 144 207 [.ref 4, u1, u2, u3, .int x4, .int x5, .int x6, .int x7, .int x8, .int x9, .int x10, .int x11, .int x12, .int v2, u14] [.int 1] 107 (FR b, N1.2) Q)) (brK ((v2 - v2 / 16 * 16) = x7) (WP (d + 1) 107 144 207 [.ref 4, u1, u2, u3, .int x4, .int x5, .int x6, .int x7, .int x8, .int x9, .int x10, .int x11, .int x12, .int v2, u14] [.int 1] 107 (FR b, N1.2) Q) (WP (d + 1) 107 144 207 [.ref 4, u1, u2, u3, .int x4, .int x5, .int x6, .int x7, .int x8, .int x9, .int x10, .int x11, .int x12, .int v2, u14] [.int 0] 107 (FR b, N1.2) Q)))))) :
    WP (d + 1) 107 144 167 [.ref 4, u1, u2, u3, .int x4, .int x5, .int x6, .int x7, .int x8, .int x9, .int x10, .int x11, .int x12, u13, u14] [.int s0, .ref 7, .ref 6] 107 (FR b, M) Q := blk 13 ct144 h
set_option maxRecDepth 100000 in
theorem v144_207 {d : Nat} {b : Bool} {M : M2} {Q : QT} {u1 : Value} {u2 : Value} {u3 : Value} {x4 : Int32} {x5 : Int32} {x6 : Int32} {x7 : Int32} {x8 : Int32} {x9 : Int32} {x10 : Int32} {x11 : Int32} {x12 : Int32} {u13 : Value} {u14 : Value} {s0 : Int32} (h : brK (s0 = 0) (WP (d + 1) 107 144 115 [.ref 4, u1, u2, u3, .int x4, .int x5, .int x6, .int x7, .int x8, .int x9, .int (x10 + 0), .int x11, .int (x12 + 1), kl u13, .int s0] [] 107 (FR b, M) Q) (WP (d + 1) 107 144 115 [.ref 4, u1, u2, u3, .int x4, .int x5, .int x6, .int x7, .int x8, .int x9, .int (x10 + 1), .int x11, .int (x12 + 1), kl u13, .int s0] [] 107 (FR b, M) Q)) :
    WP (d + 1) 107 144 207 [.ref 4, u1, u2, u3, .int x4, .int x5, .int x6, .int x7, .int x8, .int x9, .int x10, .int x11, .int x12, u13, u14] [.int s0] 107 (FR b, M) Q := blk 12 ct144 h
/- StyliteOverheard.hour(I)I -/
def ct145 : Nat → Bool := fun pc => Nat.beq pc 37
set_option maxRecDepth 100000 in
theorem v145_0 {d : Nat} {b : Bool} {M : M2} {Q : QT} {x1 : Int32} {u2 : Value} (h : WP d 107 59 0 [.int x1] [] 107 (FR b, M) (rI (fun v2 N1 => N1.1 = FR b ∧ (brK (v2 = 0) (Q (some (.int (-1))) (FR b, N1.2)) (WP d 107 71 0 [.ref 5, .ref 7, .int x1, U, U] [] 107 (FR b, N1.2) (rI (fun v4 N3 => N3.1 = FR b ∧ (brK (v4 < 16) (WP (d + 1) 107 145 37 [.ref 4, .int x1, .int v4] [.int 0, .ref 33] 107 (FR b, N3.2) Q) (WP (d + 1) 107 145 37 [.ref 4, .int x1, .int v4] [.int 1, .ref 33] 107 (FR b, N3.2) Q))))))))) :
    WP (d + 1) 107 145 0 [.ref 4, .int x1, u2] [] 107 (FR b, M) Q := blk 19 ct145 h
set_option maxRecDepth 100000 in
theorem v145_37 {d : Nat} {b : Bool} {M : M2} {Q : QT} {x1 : Int32} {x2 : Int32} {s0 : Int32} (h : WP d 107 146 0 [.ref 18, .int (x2 - x2 / 16 * 16), .int (gI M 5 5), U, U] [] 107 (FR b, M) (rI (fun v2 N1 => N1.1 = FR b ∧ (WP d 107 147 0 [.ref 33, .int s0, .int x1, .int v2] [] 107 (FR b, N1.2) (rV (fun N3 => N3.1 = FR b ∧ (Q (some (.int x2)) (FR b, N3.2)))))))) :
    WP (d + 1) 107 145 37 [.ref 4, .int x1, .int x2] [.int s0, .ref 33] 107 (FR b, M) Q := blk 14 ct145 h
/- StyliteOverheard$Village.sellFor(II)I -/
def ct146 : Nat → Bool := fun pc => Nat.beq pc 5
set_option maxRecDepth 100000 in
theorem v146_0 {d : Nat} {b : Bool} {M : M2} {Q : QT} {x1 : Int32} {x2 : Int32} {u3 : Value} {u4 : Value} (h : WP (d + 1) 107 146 5 [.ref 18, .int x1, .int x2, .int 0, .int 0] [] 107 (FR b, M) Q) :
    WP (d + 1) 107 146 0 [.ref 18, .int x1, .int x2, u3, u4] [] 107 (FR b, M) Q := blk 6 ct146 h
set_option maxRecDepth 100000 in
theorem v146_5 {d : Nat} {b : Bool} {M : M2} {Q : QT} {x1 : Int32} {x2 : Int32} {x3 : Int32} {x4 : Int32} (h : brK ((gI M 18 0) ≤ x4) (Q (some (.int x3)) (FR b, M)) (brK (6 ≤ x4) (Q (some (.int x3)) (FR b, M)) (WP d 107 128 0 [.ref 18, .int x4, .int x1, .int x2] [] 107 (FR b, M) (rI (fun v2 N1 => N1.1 = FR b ∧ (brK (v2 = 0) (WP (d + 1) 107 146 5 [.ref 18, .int x1, .int x2, .int x3, .int (x4 + 1)] [] 107 (FR b, N1.2) Q) (iK x4 6 (iK x4 6 (iK x4 6 (WP (d + 1) 107 146 5 [.ref 18, .int x1, .int x2, .int (x3 + (gI N1.2 20 (ix x4))), .int (x4 + 1)] [] 107 (FR b, sI N1.2 22 (ix x4) ((gI N1.2 22 (ix x4)) + 1)) Q)))))))))) :
    WP (d + 1) 107 146 5 [.ref 18, .int x1, .int x2, .int x3, .int x4] [] 107 (FR b, M) Q := blk 32 ct146 h
/- StyliteOverheard$Ledger.noteHour(ZII)V -/
def ct147 : Nat → Bool := fun pc => Nat.beq pc 24
set_option maxRecDepth 100000 in
theorem v147_0 {d : Nat} {b : Bool} {M : M2} {Q : QT} {x1 : Int32} {x2 : Int32} {x3 : Int32} (h : brK (x1 = 0) (WP (d + 1) 107 147 24 [.ref 33, .int x1, .int x2, .int x3] [.int 0, .int (gI M 33 1), .ref 33] 107 (FR b, sI M 33 0 ((gI M 33 0) + 1)) Q) (WP (d + 1) 107 147 24 [.ref 33, .int x1, .int x2, .int x3] [.int 1, .int (gI M 33 1), .ref 33] 107 (FR b, sI M 33 0 ((gI M 33 0) + 1)) Q)) :
    WP (d + 1) 107 147 0 [.ref 33, .int x1, .int x2, .int x3] [] 107 (FR b, M) Q := blk 15 ct147 h
set_option maxRecDepth 100000 in
theorem v147_24 {d : Nat} {b : Bool} {M : M2} {Q : QT} {u1 : Value} {x2 : Int32} {x3 : Int32} {s0 : Int32} {s1 : Int32} (h : brK (x2 = 0) (Q none (FR b, sI (sI (sI M 33 1 (s1 + s0)) 33 2 ((gI M 33 2) + 0)) 33 3 ((gI M 33 3) + x3))) (Q none (FR b, sI (sI (sI M 33 1 (s1 + s0)) 33 2 ((gI M 33 2) + 1)) 33 3 ((gI M 33 3) + x3)))) :
    WP (d + 1) 107 147 24 [.ref 33, u1, .int x2, .int x3] [.int s0, .int s1, .ref 33] 107 (FR b, M) Q := blk 19 ct147 h
/- StyliteOverheard.fed(I)I -/
def ct148 : Nat → Bool := fun _ => false
set_option maxRecDepth 100000 in
theorem v148_0 {d : Nat} {b : Bool} {M : M2} {Q : QT} {x1 : Int32} (h : brK (x1 < 0) (Q (some (.int (-1))) (FR b, M)) (brK (x1 ≤ 9) (Q (some (.int (imx 0 ((gI M 5 1) - x1)))) (FR b, sI (sF M 5 1 (imx 0 ((gI M 5 1) - x1))) 33 4 ((gI M 33 4) + 1))) (Q (some (.int (-1))) (FR b, M)))) :
    WP (d + 1) 107 148 0 [.ref 4, .int x1] [] 107 (FR b, M) Q := blk 27 ct148 h
/- StyliteOverheard.led(I)I -/
def ct149 : Nat → Bool := fun _ => false
set_option maxRecDepth 100000 in
theorem v149_0 {d : Nat} {b : Bool} {M : M2} {Q : QT} {x1 : Int32} (h : (x1 = 0 → Q (some (.int (gI M 33 0))) (FR b, M)) ∧ (¬ x1 = 0 → (x1 = 1 → Q (some (.int (gI M 33 1))) (FR b, M)) ∧ (¬ x1 = 1 → (x1 = 2 → Q (some (.int (gI M 33 2))) (FR b, M)) ∧ (¬ x1 = 2 → (x1 = 3 → Q (some (.int (gI M 33 3))) (FR b, M)) ∧ (¬ x1 = 3 → (x1 = 4 → Q (some (.int (gI M 33 4))) (FR b, M)) ∧ (¬ x1 = 4 → Q (some (.int (-1))) (FR b, M))))))) :
    WP (d + 1) 107 149 0 [.ref 4, .int x1] [] 107 (FR b, M) Q := blk 7 ct149 h
/- StyliteOverheard.image()I -/
def ct150 : Nat → Bool := fun _ => false
set_option maxRecDepth 100000 in
theorem v150_0 {d : Nat} {b : Bool} {M : M2} {Q : QT}  (h : WP d 107 151 0 [.ref 33, .ref 5] [] 107 (FR b, M) (rV (fun N1 => N1.1 = FR b ∧ (Q (some (.int (gI N1.2 33 0))) (FR b, N1.2))))) :
    WP (d + 1) 107 150 0 [.ref 4] [] 107 (FR b, M) Q := blk 10 ct150 h
/- StyliteOverheard$Ledger.keepImage(LStyliteOverheard$Him;)V -/
def ct151 : Nat → Bool := fun _ => false
set_option maxRecDepth 100000 in
theorem v151_0 {d : Nat} {b : Bool} {M : M2} {Q : QT} {r1 : Nat} (h : oK 107 r1 3 (oK 107 r1 3 (oK 107 r1 3 (oK 107 r1 3 (Q none (FR b, sI (sI (sI (sI (sI (sI (sI (sI (sI (sI M 33 5 1) 34 0 (gI (sI M 33 5 1) r1 0)) 34 1 (gI (sI (sI M 33 5 1) 34 0 (gI (sI M 33 5 1) r1 0)) r1 1)) 34 2 (gI (sI (sI (sI M 33 5 1) 34 0 (gI (sI M 33 5 1) r1 0)) 34 1 (gI (sI (sI M 33 5 1) 34 0 (gI (sI M 33 5 1) r1 0)) r1 1)) r1 2)) 34 3 (gI (sI (sI (sI (sI M 33 5 1) 34 0 (gI (sI M 33 5 1) r1 0)) 34 1 (gI (sI (sI M 33 5 1) 34 0 (gI (sI M 33 5 1) r1 0)) r1 1)) 34 2 (gI (sI (sI (sI M 33 5 1) 34 0 (gI (sI M 33 5 1) r1 0)) 34 1 (gI (sI (sI M 33 5 1) 34 0 (gI (sI M 33 5 1) r1 0)) r1 1)) r1 2)) r1 3)) 34 4 (gI M 33 0)) 34 5 (gI M 33 1)) 34 6 (gI M 33 2)) 34 7 (gI M 33 3)) 34 8 (gI M 33 4))))))) :
    WP (d + 1) 107 151 0 [.ref 33, .ref r1] [] 107 (FR b, M) Q := blk 59 ct151 h
/- StyliteOverheard.back()I -/
def ct152 : Nat → Bool := fun _ => false
set_option maxRecDepth 100000 in
theorem v152_0 {d : Nat} {b : Bool} {M : M2} {Q : QT}  (h : brK ((gI M 33 5) = 0) (Q (some (.int (-5))) (FR b, M)) (WP d 107 153 0 [.ref 33, .ref 5] [] 107 (FR b, M) (rV (fun N1 => N1.1 = FR b ∧ (Q (some (.int (gI N1.2 33 0))) (FR b, N1.2)))))) :
    WP (d + 1) 107 152 0 [.ref 4] [] 107 (FR b, M) Q := blk 14 ct152 h
/- StyliteOverheard$Ledger.layBack(LStyliteOverheard$Him;)V -/
def ct153 : Nat → Bool := fun _ => false
set_option maxRecDepth 100000 in
theorem v153_0 {d : Nat} {b : Bool} {M : M2} {Q : QT} {r1 : Nat} (h : oK 107 r1 3 (oK 107 r1 3 (oK 107 r1 3 (oK 107 r1 3 (Q none (FR b, sI (sI (sI (sI (sI (sF (sF (sF (sF M r1 0 (gI M 34 0)) r1 1 (gI M 34 1)) r1 2 (gI M 34 2)) r1 3 (gI M 34 3)) 33 0 (gI M 34 4)) 33 1 (gI M 34 5)) 33 2 (gI M 34 6)) 33 3 (gI M 34 7)) 33 4 (gI M 34 8))))))) :
    WP (d + 1) 107 153 0 [.ref 33, .ref r1] [] 107 (FR b, M) Q := blk 56 ct153 h
/- StyliteOverheard.undo()I -/
def ct154 : Nat → Bool := fun _ => false
set_option maxRecDepth 100000 in
theorem v154_0 {d : Nat} {b : Bool} {M : M2} {Q : QT} {u1 : Value} (h : WP d 107 155 0 [.ref 35] [] 107 (FR b, M) (rI (fun v2 N1 => N1.1 = FR b ∧ (brK (0 ≤ v2) (WP d 107 15 0 [.ref 36, .int v2] [] 107 (FR b, N1.2) (rI (fun v4 N3 => N3.1 = FR b ∧ (WP d 107 15 0 [.ref 37, .int v2] [] 107 (FR b, N3.2) (rI (fun v6 N5 => N5.1 = FR b ∧ (WP d 107 15 0 [.ref 38, .int v2] [] 107 (FR b, N5.2) (rI (fun v8 N7 => N7.1 = FR b ∧ (WP d 107 31 0 [.ref 4, .int v4, .int v6, .int v8, U] [] 107 (FR b, N7.2) (rV (fun N9 => N9.1 = FR b ∧ (Q (some (.int (gI N9.2 35 0))) (FR b, N9.2)))))))))))))) (Q (some (.int (-5))) (FR b, N1.2)))))) :
    WP (d + 1) 107 154 0 [.ref 4, u1] [] 107 (FR b, M) Q := blk 28 ct154 h
/- StyliteOverheard$Changes.takenBack()I -/
def ct155 : Nat → Bool := fun _ => false
set_option maxRecDepth 100000 in
theorem v155_0 {d : Nat} {b : Bool} {M : M2} {Q : QT}  (h : brK ((gI M 35 0) = 0) (Q (some (.int (-1))) (FR b, M)) (Q (some (.int ((gI M 35 0) - 1))) (FR b, sI M 35 0 ((gI M 35 0) - 1)))) :
    WP (d + 1) 107 155 0 [.ref 35] [] 107 (FR b, M) Q := blk 13 ct155 h
/- StyliteOverheard.redo()I -/
def ct156 : Nat → Bool := fun _ => false
set_option maxRecDepth 100000 in
theorem v156_0 {d : Nat} {b : Bool} {M : M2} {Q : QT} {u1 : Value} (h : WP d 107 157 0 [.ref 35] [] 107 (FR b, M) (rI (fun v2 N1 => N1.1 = FR b ∧ (brK (0 ≤ v2) (WP d 107 15 0 [.ref 36, .int v2] [] 107 (FR b, N1.2) (rI (fun v4 N3 => N3.1 = FR b ∧ (WP d 107 15 0 [.ref 37, .int v2] [] 107 (FR b, N3.2) (rI (fun v6 N5 => N5.1 = FR b ∧ (WP d 107 15 0 [.ref 39, .int v2] [] 107 (FR b, N5.2) (rI (fun v8 N7 => N7.1 = FR b ∧ (WP d 107 31 0 [.ref 4, .int v4, .int v6, .int v8, U] [] 107 (FR b, N7.2) (rV (fun N9 => N9.1 = FR b ∧ (Q (some (.int ((gI N9.2 35 1) - (gI N9.2 35 0)))) (FR b, N9.2)))))))))))))) (Q (some (.int (-5))) (FR b, N1.2)))))) :
    WP (d + 1) 107 156 0 [.ref 4, u1] [] 107 (FR b, M) Q := blk 32 ct156 h
/- StyliteOverheard$Changes.takenAgain()I -/
def ct157 : Nat → Bool := fun _ => false
set_option maxRecDepth 100000 in
theorem v157_0 {d : Nat} {b : Bool} {M : M2} {Q : QT}  (h : brK ((gI M 35 0) = (gI M 35 1)) (Q (some (.int (-1))) (FR b, M)) (Q (some (.int (((gI M 35 0) + 1) - 1))) (FR b, sI M 35 0 ((gI M 35 0) + 1)))) :
    WP (d + 1) 107 157 0 [.ref 35] [] 107 (FR b, M) Q := blk 17 ct157 h
/- StyliteOverheard.body(I)I -/
def ct158 : Nat → Bool := fun _ => false
set_option maxRecDepth 100000 in
theorem v158_0 {d : Nat} {b : Bool} {M : M2} {Q : QT} {x1 : Int32} (h : brK (x1 < 0) (Q (some (.int (-1))) (FR b, M)) (brK (x1 < 8) (WP d 107 159 0 [.ref 40, .int x1] [] 107 (FR b, M) (rI (fun v2 N1 => N1.1 = FR b ∧ (Q (some (.int v2)) (FR b, N1.2))))) (Q (some (.int (-1))) (FR b, M)))) :
    WP (d + 1) 107 158 0 [.ref 4, .int x1] [] 107 (FR b, M) Q := blk 11 ct158 h
/- StyliteOverheard$Acts.added(I)I -/
def ct159 : Nat → Bool := fun _ => false
set_option maxRecDepth 100000 in
theorem v159_0 {d : Nat} {b : Bool} {M : M2} {Q : QT} {x1 : Int32} (h : brK ((gI M 40 0) < 50) (iK (gI M 40 0) 50 (Q (some (.int (((gI M 40 0) + 1) - 1))) (FR b, sI (sI M 41 (ix (gI M 40 0)) x1) 40 0 ((gI M 40 0) + 1)))) (Q (some (.int (-3))) (FR b, M))) :
    WP (d + 1) 107 159 0 [.ref 40, .int x1] [] 107 (FR b, M) Q := blk 22 ct159 h
/- StyliteOverheard.act(III)I -/
def ct160 : Nat → Bool := fun _ => false
set_option maxRecDepth 100000 in
theorem v160_0 {d : Nat} {b : Bool} {M : M2} {Q : QT} {x1 : Int32} {x2 : Int32} {x3 : Int32} (h : WP d 107 161 0 [.ref 40, .int x1, .int x2, .int x3] [] 107 (FR b, M) (rI (fun v2 N1 => N1.1 = FR b ∧ (Q (some (.int v2)) (FR b, N1.2))))) :
    WP (d + 1) 107 160 0 [.ref 4, .int x1, .int x2, .int x3] [] 107 (FR b, M) Q := blk 8 ct160 h
/- StyliteOverheard$Acts.done(III)I -/
def ct161 : Nat → Bool := fun _ => false
set_option maxRecDepth 100000 in
theorem v161_0 {d : Nat} {b : Bool} {M : M2} {Q : QT} {x1 : Int32} {x2 : Int32} {x3 : Int32} (h : WP d 107 162 0 [.ref 40, .int x1] [] 107 (FR b, sI M 40 1 0) (rI (fun v2 N1 => N1.1 = FR b ∧ (brK (v2 = 0) (Q (some (.int 0)) (FR b, N1.2)) (brK (x2 < 0) (Q (some (.int 0)) (FR b, N1.2)) (brK (x2 < 4) (WP d 107 15 0 [.ref 41, .int x1] [] 107 (FR b, N1.2) (rI (fun v4 N3 => N3.1 = FR b ∧ (WP d 107 163 0 [.ref 40, .int x1, .int x2, .int v4, .int x3, .int 0, U, U, U, U, U] [] 107 (FR b, N3.2) (rI (fun v6 N5 => N5.1 = FR b ∧ (Q (some (.int v6)) (FR b, N5.2)))))))) (Q (some (.int 0)) (FR b, N1.2)))))))) :
    WP (d + 1) 107 161 0 [.ref 40, .int x1, .int x2, .int x3] [] 107 (FR b, M) Q := blk 24 ct161 h
/- StyliteOverheard$Acts.has(I)Z -/
def ct162 : Nat → Bool := fun _ => false
set_option maxRecDepth 100000 in
theorem v162_0 {d : Nat} {b : Bool} {M : M2} {Q : QT} {x1 : Int32} (h : brK (x1 < 0) (Q (some (.int 0)) (FR b, M)) (brK ((gI M 40 0) ≤ x1) (Q (some (.int 0)) (FR b, M)) (Q (some (.int 1)) (FR b, M)))) :
    WP (d + 1) 107 162 0 [.ref 40, .int x1] [] 107 (FR b, M) Q := blk 10 ct162 h
/- StyliteOverheard$Acts.run(LStyliteOverheard$Acts;IIIII)I -/
def ct163 : Nat → Bool := fun pc => Nat.beq pc 15 || Nat.beq pc 53
set_option maxRecDepth 100000 in
theorem v163_0 {d : Nat} {b : Bool} {M : M2} {Q : QT} {x1 : Int32} {x2 : Int32} {x3 : Int32} {x4 : Int32} {x5 : Int32} {u6 : Value} {u7 : Value} {u8 : Value} {u9 : Value} {u10 : Value} (h : brK (x5 < 40) (WP (d + 1) 107 163 15 [.ref 40, .int x1, .int x2, .int x3, .int x4, .int x5, .int x3, .int 0, u8, u9, u10] [] 107 (FR b, M) Q) (Q (some (.int 0)) (FR b, M))) :
    WP (d + 1) 107 163 0 [.ref 40, .int x1, .int x2, .int x3, .int x4, .int x5, u6, u7, u8, u9, u10] [] 107 (FR b, M) Q := blk 9 ct163 h
set_option maxRecDepth 100000 in
theorem v163_15 {d : Nat} {b : Bool} {M : M2} {Q : QT} {x1 : Int32} {x2 : Int32} {u3 : Value} {x4 : Int32} {x5 : Int32} {x6 : Int32} {x7 : Int32} {u8 : Value} {u9 : Value} {u10 : Value} (h : brK (8 ≤ x7) (WP (d + 1) 107 163 53 [.ref 40, .int x1, .int x2, u3, .int x4, .int x5, .int x6, .int x7, u8, u9, u10] [] 107 (FR b, M) Q) (WP d 107 15 0 [.ref 1, .int ((x6 * 4) + x2)] [] 107 (FR b, M) (rI (fun v2 N1 => N1.1 = FR b ∧ (brK (v2 = 0) (WP d 107 15 0 [.ref 2, .int x6] [] 107 (FR b, N1.2) (rI (fun v4 N3 => N3.1 = FR b ∧ (WP (d + 1) 107 163 15 [.ref 40, .int x1, .int x2, u3, .int x4, .int x5, .int v4, .int (x7 + 1), u8, u9, u10] [] 107 (FR b, N3.2) Q)))) (WP (d + 1) 107 163 53 [.ref 40, .int x1, .int x2, u3, .int x4, .int x5, .int x6, .int x7, u8, u9, u10] [] 107 (FR b, N1.2) Q)))))) :
    WP (d + 1) 107 163 15 [.ref 40, .int x1, .int x2, u3, .int x4, .int x5, .int x6, .int x7, u8, u9, u10] [] 107 (FR b, M) Q := blk 19 ct163 h
set_option maxRecDepth 100000 in
theorem v163_53 {d : Nat} {b : Bool} {M : M2} {Q : QT} {x1 : Int32} {x2 : Int32} {u3 : Value} {x4 : Int32} {x5 : Int32} {x6 : Int32} {u7 : Value} {u8 : Value} {u9 : Value} {u10 : Value} (h : WP d 107 15 0 [.ref 1, .int ((x6 * 4) + x2)] [] 107 (FR b, M) (rI (fun v2 N1 => N1.1 = FR b ∧ (WP d 107 164 0 [.ref 40, .int v2] [] 107 (FR b, N1.2) (rV (fun N3 => N3.1 = FR b ∧ (WP d 107 15 0 [.ref 41, .int x1] [] 107 (FR b, N3.2) (rI (fun v5 N4 => N4.1 = FR b ∧ (WP d 107 15 0 [.ref 2, .int x6] [] 107 (FR b, N4.2) (rI (fun v7 N6 => N6.1 = FR b ∧ ((v2 = 1 → Q (some (.int (x4 + x1))) (FR b, N6.2)) ∧ (¬ v2 = 1 → (v2 = 2 → WP d 107 163 0 [.ref 40, .int x1, .int 1, .int v5, .int x4, .int (x5 + 1), U, U, U, U, U] [] 107 (FR b, N6.2) (rI (fun v9 N8 => N8.1 = FR b ∧ (WP d 107 163 0 [.ref 40, .int x1, .int 2, .int v5, .int 1, .int (x5 + 1), U, U, U, U, U] [] 107 (FR b, N8.2) (rI (fun v11 N10 => N10.1 = FR b ∧ (Q (some (.int (v9 - v11))) (FR b, N10.2)))))))) ∧ (¬ v2 = 2 → (v2 = 10 → WP d 107 163 0 [.ref 40, .int x1, .int 0, .int v5, .int x4, .int (x5 + 1), U, U, U, U, U] [] 107 (FR b, N6.2) (rI (fun v13 N12 => N12.1 = FR b ∧ (Q (some (.int (v13 * 2))) (FR b, N12.2))))) ∧ (¬ v2 = 10 → (v2 = 11 → Q (some (.int (x4 ^^^ x1))) (FR b, N6.2)) ∧ (¬ v2 = 11 → (v2 = 20 → WP d 107 163 0 [.ref 40, .int x1, .int 0, .int v7, .int x4, .int (x5 + 1), U, U, U, U, U] [] 107 (FR b, N6.2) (rI (fun v15 N14 => N14.1 = FR b ∧ (Q (some (.int (v15 + 3))) (FR b, N14.2))))) ∧ (¬ v2 = 20 → (v2 = 30 → WP d 107 163 0 [.ref 40, .int x1, .int 1, .int v7, .int x4, .int (x5 + 1), U, U, U, U, U] [] 107 (FR b, N6.2) (rI (fun v17 N16 => N16.1 = FR b ∧ (Q (some (.int (-v17))) (FR b, N16.2))))) ∧ (¬ v2 = 30 → (v2 = 40 → WP d 107 163 0 [.ref 40, .int x1, .int 2, .int v7, .int x4, .int (x5 + 1), U, U, U, U, U] [] 107 (FR b, N6.2) (rI (fun v19 N18 => N18.1 = FR b ∧ (Q (some (.int (v19 * 3))) (FR b, N18.2))))) ∧ (¬ v2 = 40 → (v2 = 41 → WP d 107 163 0 [.ref 40, .int x1, .int 1, .int v7, .int (x4 + 1), .int (x5 + 1), U, U, U, U, U] [] 107 (FR b, N6.2) (rI (fun v21 N20 => N20.1 = FR b ∧ (Q (some (.int v21)) (FR b, N20.2))))) ∧ (¬ v2 = 41 → (v2 = 50 → WP d 107 163 0 [.ref 40, .int x1, .int 3, .int v7, .int x4, .int (x5 + 1), U, U, U, U, U] [] 107 (FR b, N6.2) (rI (fun v23 N22 => N22.1 = FR b ∧ (Q (some (.int (v23 ^^^ 5))) (FR b, N22.2))))) ∧ (¬ v2 = 50 → (v2 = 60 → WP d 107 163 0 [.ref 40, .int x1, .int 2, .int v7, .int x4, .int (x5 + 1), U, U, U, U, U] [] 107 (FR b, N6.2) (rI (fun v25 N24 => N24.1 = FR b ∧ (WP d 107 163 0 [.ref 40, .int x1, .int 0, .int v5, .int 2, .int (x5 + 1), U, U, U, U, U] [] 107 (FR b, N24.2) (rI (fun v27 N26 => N26.1 = FR b ∧ (Q (some (.int (v25 - v27))) (FR b, N26.2)))))))) ∧ (¬ v2 = 60 → (v2 = 61 → WP d 107 163 0 [.ref 40, .int x1, .int 3, .int v7, .int x4, .int (x5 + 1), U, U, U, U, U] [] 107 (FR b, N6.2) (rI (fun v29 N28 => N28.1 = FR b ∧ (Q (some (.int (v29 + 1))) (FR b, N28.2))))) ∧ (¬ v2 = 61 → (v2 = 70 → WP d 107 163 0 [.ref 40, .int x1, .int 0, .int v7, .int x4, .int (x5 + 1), U, U, U, U, U] [] 107 (FR b, N6.2) (rI (fun v31 N30 => N30.1 = FR b ∧ (Q (some (.int (v31 * 2))) (FR b, N30.2))))) ∧ (¬ v2 = 70 → (v2 = 80 → WP d 107 163 0 [.ref 40, .int x1, .int 1, .int v7, .int x4, .int (x5 + 1), U, U, U, U, U] [] 107 (FR b, N6.2) (rI (fun v33 N32 => N32.1 = FR b ∧ (WP d 107 163 0 [.ref 40, .int x1, .int 2, .int v5, .int 2, .int (x5 + 1), U, U, U, U, U] [] 107 (FR b, N32.2) (rI (fun v35 N34 => N34.1 = FR b ∧ (Q (some (.int (v33 + v35))) (FR b, N34.2)))))))) ∧ (¬ v2 = 80 → WP d 107 163 0 [.ref 40, .int x1, .int 0, .int v7, .int x4, .int (x5 + 1), U, U, U, U, U] [] 107 (FR b, N6.2) (rI (fun v37 N36 => N36.1 = FR b ∧ (Q (some (.int (v37 - 1))) (FR b, N36.2)))))))))))))))))))))))))))))) :
    WP (d + 1) 107 163 53 [.ref 40, .int x1, .int x2, u3, .int x4, .int x5, .int x6, u7, u8, u9, u10] [] 107 (FR b, M) Q := blk 43 ct163 h
/- StyliteOverheard$Acts.note(I)V -/
def ct164 : Nat → Bool := fun _ => false
set_option maxRecDepth 100000 in
theorem v164_0 {d : Nat} {b : Bool} {M : M2} {Q : QT} {x1 : Int32} (h : brK ((gI M 40 1) < 0) (Q none (FR b, sI M 40 1 ((gI M 40 1) + 1))) (brK (24 ≤ (gI M 40 1)) (Q none (FR b, sI M 40 1 ((gI M 40 1) + 1))) (iK (gI M 40 1) 24 (Q none (FR b, sI (sI M 42 (ix (gI M 40 1)) x1) 40 1 ((gI M 40 1) + 1)))))) :
    WP (d + 1) 107 164 0 [.ref 40, .int x1] [] 107 (FR b, M) Q := blk 21 ct164 h
/- StyliteOverheard.trace(I)I -/
def ct165 : Nat → Bool := fun _ => false
set_option maxRecDepth 100000 in
theorem v165_0 {d : Nat} {b : Bool} {M : M2} {Q : QT} {x1 : Int32} (h : brK (x1 < 0) (Q (some (.int (-1))) (FR b, M)) (brK ((gI M 40 1) ≤ x1) (Q (some (.int (-1))) (FR b, M)) (brK (x1 < 24) (WP d 107 15 0 [.ref 42, .int x1] [] 107 (FR b, M) (rI (fun v2 N1 => N1.1 = FR b ∧ (Q (some (.int v2)) (FR b, N1.2))))) (Q (some (.int (-1))) (FR b, M))))) :
    WP (d + 1) 107 165 0 [.ref 4, .int x1] [] 107 (FR b, M) Q := blk 17 ct165 h
/- StyliteOverheard.keep(II)I -/
def ct166 : Nat → Bool := fun pc => Nat.beq pc 28
set_option maxRecDepth 100000 in
theorem v166_0 {d : Nat} {b : Bool} {M : M2} {Q : QT} {x1 : Int32} {x2 : Int32} {u3 : Value} (h : WP d 107 18 0 [.ref 4, .int x1] [] 107 (FR b, M) (rA (fun N1 => N1.1 = FR b ∧ (Q (some (.int (-1))) (FR b, N1.2))) (fun q2 N1 => N1.1 = FR b ∧ (brK (x2 = (-1)) (WP (d + 1) 107 166 28 [.ref 4, .int x1, .int x2, .ref q2] [] 107 (FR b, N1.2) Q) (WP d 107 162 0 [.ref 40, .int x2] [] 107 (FR b, N1.2) (rI (fun v4 N3 => N3.1 = FR b ∧ (brK (v4 = 0) (Q (some (.int (-1))) (FR b, N3.2)) (WP (d + 1) 107 166 28 [.ref 4, .int x1, .int x2, .ref q2] [] 107 (FR b, N3.2) Q))))))))) :
    WP (d + 1) 107 166 0 [.ref 4, .int x1, .int x2, u3] [] 107 (FR b, M) Q := blk 17 ct166 h
set_option maxRecDepth 100000 in
theorem v166_28 {d : Nat} {b : Bool} {M : M2} {Q : QT} {u0 : Value} {u1 : Value} {x2 : Int32} {r3 : Nat} (h : brK (0 ≤ x2) (oK 107 r3 9 (oK 107 r3 9 (Q (some (.int 1)) (FR b, sF (sF M r3 0 1) r3 1 x2)))) (oK 107 r3 9 (oK 107 r3 9 (Q (some (.int 1)) (FR b, sF (sF M r3 0 0) r3 1 x2))))) :
    WP (d + 1) 107 166 28 [u0, u1, .int x2, .ref r3] [] 107 (FR b, M) Q := blk 12 ct166 h
/- StyliteOverheard.row(III)I -/
def ct167 : Nat → Bool := fun _ => false
set_option maxRecDepth 100000 in
theorem v167_0 {d : Nat} {b : Bool} {M : M2} {Q : QT} {x1 : Int32} {x2 : Int32} {x3 : Int32} {u4 : Value} (h : WP d 107 18 0 [.ref 4, .int x1] [] 107 (FR b, M) (rA (fun N1 => N1.1 = FR b ∧ (Q (some (.int (-1))) (FR b, N1.2))) (fun q2 N1 => N1.1 = FR b ∧ (brK (x2 < 0) (Q (some (.int (-1))) (FR b, N1.2)) (brK (4 < x2) (Q (some (.int (-1))) (FR b, N1.2)) (brK (x3 ≤ 60) (brK (0 ≤ x3) (oK 107 q2 9 (WP d 107 168 0 [.ref q2, .int x2, .int x3, U] [] 107 (FR b, N1.2) (rV (fun N3 => N3.1 = FR b ∧ (Q (some (.int 1)) (FR b, N3.2)))))) (Q (some (.int (-14))) (FR b, N1.2))) (Q (some (.int (-1))) (FR b, N1.2)))))))) :
    WP (d + 1) 107 167 0 [.ref 4, .int x1, .int x2, .int x3, u4] [] 107 (FR b, M) Q := blk 23 ct167 h
/- StyliteOverheard$Shelf.holdRow(II)V -/
def ct168 : Nat → Bool := fun pc => Nat.beq pc 22
set_option maxRecDepth 100000 in
theorem v168_0 {d : Nat} {b : Bool} {M : M2} {Q : QT} {th : Nat} {x1 : Int32} {x2 : Int32} {u3 : Value} (h : oK 107 th 9 (oK 107 th 9 (oK 107 th 9 (WP (d + 1) 107 168 22 [.ref th, .int x1, .int x2, .int 0] [] 107 (FR b, sF (sF (sF M th 0 2) th 2 x1) th 3 (imn x2 60)) Q)))) :
    WP (d + 1) 107 168 0 [.ref th, .int x1, .int x2, u3] [] 107 (FR b, M) Q := blk 15 ct168 h
set_option maxRecDepth 100000 in
theorem v168_22 {d : Nat} {b : Bool} {M : M2} {Q : QT} {th : Nat} {u1 : Value} {u2 : Value} {x3 : Int32} (h : oK 107 th 9 (rK (FR b th 4) (fun q1 => rdN 107 q1 (brK ((lenI M q1) ≤ x3) (Q none (FR b, M)) (oK 107 th 9 (rK (FR b th 4) (fun q2 => oK 107 q2 23 (iK x3 (ln q2) (WP (d + 1) 107 168 22 [.ref th, u1, kl u2, .int (x3 + 1)] [] 107 (FR b, sL M q2 (ix x3) 0) Q))))))))) :
    WP (d + 1) 107 168 22 [.ref th, u1, u2, .int x3] [] 107 (FR b, M) Q := blk 14 ct168 h
/- StyliteOverheard.put(IIJ)I -/
def ct169 : Nat → Bool := fun _ => false
set_option maxRecDepth 100000 in
theorem v169_0 {d : Nat} {b : Bool} {M : M2} {Q : QT} {x1 : Int32} {x2 : Int32} {x3 : Int64} {u5 : Value} (h : WP d 107 18 0 [.ref 4, .int x1] [] 107 (FR b, M) (rA (fun N1 => N1.1 = FR b ∧ (Q (some (.int (-1))) (FR b, N1.2))) (fun q2 N1 => N1.1 = FR b ∧ (oK 107 q2 9 (brK ((gI N1.2 q2 0) = 2) (oK 107 q2 9 (WP d 107 170 0 [.ref q2, .int x2, .long x3, U] [] 107 (FR b, N1.2) (rI (fun v4 N3 => N3.1 = FR b ∧ (brK (v4 = 0) (Q (some (.int (-13))) (FR b, N3.2)) (Q (some (.int 1)) (FR b, N3.2))))))) (oK 107 q2 9 (WP d 107 66 0 [.ref q2] [] 107 (FR b, N1.2) (rI (fun v6 N5 => N5.1 = FR b ∧ (Q (some (.int v6)) (FR b, N5.2))))))))))) :
    WP (d + 1) 107 169 0 [.ref 4, .int x1, .int x2, .long x3, U, u5] [] 107 (FR b, M) Q := blk 19 ct169 h
/- StyliteOverheard$Shelf.hasPut(IJ)Z -/
def ct170 : Nat → Bool := fun _ => false
set_option maxRecDepth 100000 in
theorem v170_0 {d : Nat} {b : Bool} {M : M2} {Q : QT} {th : Nat} {x1 : Int32} {x2 : Int64} (h : brK (x1 < 0) (Q (some (.int 0)) (FR b, M)) (oK 107 th 9 (brK ((gI M th 3) ≤ x1) (Q (some (.int 0)) (FR b, M)) (oK 107 th 9 (rK (FR b th 4) (fun q1 => rdN 107 q1 (brK (x1 < (lenI M q1)) (oK 107 th 9 (rK (FR b th 4) (fun q2 => oK 107 th 9 (WP d 107 171 0 [.ref th, .long x2, U] [] 107 (FR b, M) (rL (fun v4 N3 => N3.1 = FR b ∧ (oK 107 q2 23 (iK x1 (ln q2) (Q (some (.int 1)) (FR b, sL N3.2 q2 (ix x1) v4)))))))))) (Q (some (.int 0)) (FR b, M))))))))) :
    WP (d + 1) 107 170 0 [.ref th, .int x1, .long x2, U] [] 107 (FR b, M) Q := blk 21 ct170 h
/- StyliteOverheard$Shelf.cut(J)J -/
def ct171 : Nat → Bool := fun _ => false
set_option maxRecDepth 100000 in
theorem v171_0 {d : Nat} {b : Bool} {M : M2} {Q : QT} {th : Nat} {x1 : Int64} (h : oK 107 th 9 (((gI M th 2) = 0 → Q (some (.long x1.toInt32.toInt8.toInt32.toInt64)) (FR b, M)) ∧ (¬ (gI M th 2) = 0 → ((gI M th 2) = 1 → Q (some (.long x1.toInt32.toInt16.toInt32.toInt64)) (FR b, M)) ∧ (¬ (gI M th 2) = 1 → ((gI M th 2) = 2 → Q (some (.long x1.toInt32.toInt64)) (FR b, M)) ∧ (¬ (gI M th 2) = 2 → ((gI M th 2) = 3 → Q (some (.long x1)) (FR b, M)) ∧ (¬ (gI M th 2) = 3 → ((gI M th 2) = 4 → brK ((lg_cmp x1 0) = 0) (Q (some (.long 0)) (FR b, M)) (Q (some (.long 1)) (FR b, M))) ∧ (¬ (gI M th 2) = 4 → Q (some (.long x1)) (FR b, M)))))))) :
    WP (d + 1) 107 171 0 [.ref th, .long x1, U] [] 107 (FR b, M) Q := blk 11 ct171 h
/- StyliteOverheard.element(II)J -/
def ct172 : Nat → Bool := fun _ => false
set_option maxRecDepth 100000 in
theorem v172_0 {d : Nat} {b : Bool} {M : M2} {Q : QT} {x1 : Int32} {x2 : Int32} {u3 : Value} (h : WP d 107 18 0 [.ref 4, .int x1] [] 107 (FR b, M) (rA (fun N1 => N1.1 = FR b ∧ (Q (some (.long (-9223372036854775808))) (FR b, N1.2))) (fun q2 N1 => N1.1 = FR b ∧ (oK 107 q2 9 (brK ((gI N1.2 q2 0) = 2) (brK (x2 < 0) (Q (some (.long (-9223372036854775808))) (FR b, N1.2)) (oK 107 q2 9 (brK (x2 < (gI N1.2 q2 3)) (oK 107 q2 9 (WP d 107 21 0 [.ref q2, .int x2] [] 107 (FR b, N1.2) (rL (fun v4 N3 => N3.1 = FR b ∧ (Q (some (.long v4)) (FR b, N3.2)))))) (Q (some (.long (-9223372036854775808))) (FR b, N1.2))))) (Q (some (.long (-9223372036854775808))) (FR b, N1.2))))))) :
    WP (d + 1) 107 172 0 [.ref 4, .int x1, .int x2, u3] [] 107 (FR b, M) Q := blk 21 ct172 h
/- StyliteOverheard.shift(IIIII)I -/
def ct173 : Nat → Bool := fun _ => false
set_option maxRecDepth 100000 in
theorem v173_0 {d : Nat} {b : Bool} {M : M2} {Q : QT} {x1 : Int32} {x2 : Int32} {x3 : Int32} {x4 : Int32} {x5 : Int32} {u6 : Value} {u7 : Value} (h : WP d 107 18 0 [.ref 4, .int x1] [] 107 (FR b, M) (rA (fun N1 => N1.1 = FR b ∧ (WP d 107 18 0 [.ref 4, .int x3] [] 107 (FR b, N1.2) (rA (fun N3 => N3.1 = FR b ∧ (Q (some (.int (-1))) (FR b, N3.2))) (fun q4 N3 => N3.1 = FR b ∧ (Q (some (.int (-1))) (FR b, N3.2)))))) (fun q2 N1 => N1.1 = FR b ∧ (WP d 107 18 0 [.ref 4, .int x3] [] 107 (FR b, N1.2) (rA (fun N5 => N5.1 = FR b ∧ (Q (some (.int (-1))) (FR b, N5.2))) (fun q6 N5 => N5.1 = FR b ∧ (oK 107 q2 9 (brK ((gI N5.2 q2 0) = 0) (Q (some (.int (-11))) (FR b, N5.2)) (oK 107 q6 9 (brK ((gI N5.2 q6 0) = 0) (Q (some (.int (-11))) (FR b, N5.2)) (oK 107 q2 9 (brK ((gI N5.2 q2 0) = 2) (oK 107 q6 9 (brK ((gI N5.2 q6 0) = 2) (oK 107 q2 9 (oK 107 q6 9 (brK ((gI N5.2 q2 2) = (gI N5.2 q6 2)) (brK (x5 < 0) (Q (some (.int (-13))) (FR b, N5.2)) (oK 107 q2 9 (WP d 107 174 0 [.ref q2, .int x2, .int x5] [] 107 (FR b, N5.2) (rI (fun v8 N7 => N7.1 = FR b ∧ (brK (v8 = 0) (Q (some (.int (-13))) (FR b, N7.2)) (oK 107 q6 9 (WP d 107 174 0 [.ref q6, .int x4, .int x5] [] 107 (FR b, N7.2) (rI (fun v10 N9 => N9.1 = FR b ∧ (brK (v10 = 0) (Q (some (.int (-13))) (FR b, N9.2)) (oK 107 q2 9 (rK (FR b q2 4) (fun q11 => oK 107 q6 9 (rK (FR b q6 4) (fun q12 => cpK 107 q11 q12 (FR b, N9.2) (fun N13 => Q (some (.int x5)) (FR b, N13.2)) x2 x4 x5)))))))))))))))) (Q (some (.int (-12))) (FR b, N5.2))))) (Q (some (.int (-12))) (FR b, N5.2)))) (Q (some (.int (-12))) (FR b, N5.2)))))))))))))) :
    WP (d + 1) 107 173 0 [.ref 4, .int x1, .int x2, .int x3, .int x4, .int x5, u6, u7] [] 107 (FR b, M) Q := blk 54 ct173 h
/- StyliteOverheard$Shelf.hasStretch(II)Z -/
def ct174 : Nat → Bool := fun _ => false
set_option maxRecDepth 100000 in
theorem v174_0 {d : Nat} {b : Bool} {M : M2} {Q : QT} {th : Nat} {x1 : Int32} {x2 : Int32} (h : brK (x1 < 0) (Q (some (.int 0)) (FR b, M)) (oK 107 th 9 (brK ((gI M th 3) < x1) (Q (some (.int 0)) (FR b, M)) (oK 107 th 9 (brK (((gI M th 3) - x1) < x2) (Q (some (.int 0)) (FR b, M)) (Q (some (.int 1)) (FR b, M))))))) :
    WP (d + 1) 107 174 0 [.ref th, .int x1, .int x2] [] 107 (FR b, M) Q := blk 16 ct174 h
/- StyliteOverheard.taken(II)I -/
def ct175 : Nat → Bool := fun _ => false
set_option maxRecDepth 100000 in
theorem v175_0 {d : Nat} {b : Bool} {M : M2} {Q : QT} {x1 : Int32} {x2 : Int32} {u3 : Value} (h : WP d 107 18 0 [.ref 4, .int x1] [] 107 (FR b, M) (rA (fun N1 => N1.1 = FR b ∧ (Q (some (.int (-1))) (FR b, N1.2))) (fun q2 N1 => N1.1 = FR b ∧ (brK (x2 < 0) (Q (some (.int (-1))) (FR b, N1.2)) (brK (x2 < 8) (oK 107 q2 9 (brK ((gI N1.2 q2 0) = 0) (Q (some (.int (-11))) (FR b, N1.2)) (oK 107 q2 9 (brK ((gI N1.2 q2 0) = 1) (oK 107 q2 9 (WP d 107 176 0 [.ref 40, .int (gI N1.2 q2 1), .int x2, U, U] [] 107 (FR b, N1.2) (rI (fun v4 N3 => N3.1 = FR b ∧ (brK (v4 = 0) (Q (some (.int (-12))) (FR b, N3.2)) (oK 107 q2 9 (WP d 107 15 0 [.ref 41, .int (gI N3.2 q2 1)] [] 107 (FR b, N3.2) (rI (fun v6 N5 => N5.1 = FR b ∧ (Q (some (.int v6)) (FR b, N5.2))))))))))) (Q (some (.int (-12))) (FR b, N1.2)))))) (Q (some (.int (-1))) (FR b, N1.2))))))) :
    WP (d + 1) 107 175 0 [.ref 4, .int x1, .int x2, u3] [] 107 (FR b, M) Q := blk 33 ct175 h
/- StyliteOverheard$Acts.isUnder(II)Z -/
def ct176 : Nat → Bool := fun pc => Nat.beq pc 12
set_option maxRecDepth 100000 in
theorem v176_0 {d : Nat} {b : Bool} {M : M2} {Q : QT} {x1 : Int32} {x2 : Int32} {u3 : Value} {u4 : Value} (h : WP d 107 15 0 [.ref 41, .int x1] [] 107 (FR b, M) (rI (fun v2 N1 => N1.1 = FR b ∧ (WP (d + 1) 107 176 12 [.ref 40, .int x1, .int x2, .int v2, .int 0] [] 107 (FR b, N1.2) Q)))) :
    WP (d + 1) 107 176 0 [.ref 40, .int x1, .int x2, u3, u4] [] 107 (FR b, M) Q := blk 9 ct176 h
set_option maxRecDepth 100000 in
theorem v176_12 {d : Nat} {b : Bool} {M : M2} {Q : QT} {u0 : Value} {u1 : Value} {x2 : Int32} {x3 : Int32} {x4 : Int32} (h : brK (8 ≤ x4) (brK (x3 = x2) (Q (some (.int 1)) (FR b, M)) (Q (some (.int 0)) (FR b, M))) (brK (x3 = x2) (brK (x3 = x2) (Q (some (.int 1)) (FR b, M)) (Q (some (.int 0)) (FR b, M))) (WP d 107 15 0 [.ref 2, .int x3] [] 107 (FR b, M) (rI (fun v2 N1 => N1.1 = FR b ∧ (WP (d + 1) 107 176 12 [u0, u1, .int x2, .int v2, .int (x4 + 1)] [] 107 (FR b, N1.2) Q)))))) :
    WP (d + 1) 107 176 12 [u0, u1, .int x2, .int x3, .int x4] [] 107 (FR b, M) Q := blk 14 ct176 h
/- StyliteOverheard.count(I)I -/
def ct177 : Nat → Bool := fun _ => false
set_option maxRecDepth 100000 in
theorem v177_0 {d : Nat} {b : Bool} {M : M2} {Q : QT} {x1 : Int32} (h : (x1 = 0 → Q (some (.int (gI M 18 0))) (FR b, M)) ∧ (¬ x1 = 0 → (x1 = 1 → Q (some (.int (gI M 26 0))) (FR b, M)) ∧ (¬ x1 = 1 → (x1 = 2 → Q (some (.int (gI M 7 0))) (FR b, M)) ∧ (¬ x1 = 2 → (x1 = 3 → Q (some (.int (gI M 35 0))) (FR b, M)) ∧ (¬ x1 = 3 → (x1 = 4 → Q (some (.int (gI M 40 0))) (FR b, M)) ∧ (¬ x1 = 4 → (x1 = 5 → Q (some (.int (gI M 40 1))) (FR b, M)) ∧ (¬ x1 = 5 → Q (some (.int (-1))) (FR b, M)))))))) :
    WP (d + 1) 107 177 0 [.ref 4, .int x1] [] 107 (FR b, M) Q := blk 7 ct177 h
/- StyliteOverheardModel.stall(II)I -/
def ct179 : Nat → Bool := fun _ => false
set_option maxRecDepth 100000 in
theorem v179_0 {d : Nat} {b : Bool} {M : M2} {Q : QT} {x1 : Int32} {x2 : Int32} (h : WP d 107 180 0 [.int x1, .int 0, .int 65535] [] 107 (FR b, M) (rI (fun v2 N1 => N1.1 = FR b ∧ (brK (v2 = 0) (Q (some (.int (-1))) (FR b, N1.2)) (WP d 107 180 0 [.int x2, .int 0, .int 99] [] 107 (FR b, N1.2) (rI (fun v4 N3 => N3.1 = FR b ∧ (brK (v4 = 0) (Q (some (.int (-1))) (FR b, N3.2)) (brK ((gI N3.2 67 2) = 6) (Q (some (.int (-3))) (FR b, N3.2)) (WP d 107 181 0 [.ref 67, .int x1, .int x2, .int 0] [] 107 (FR b, N3.2) (rI (fun v6 N5 => N5.1 = FR b ∧ (Q (some (.int v6)) (FR b, N5.2)))))))))))))) :
    WP (d + 1) 107 179 0 [.ref 67, .int x1, .int x2] [] 107 (FR b, M) Q := blk 21 ct179 h
/- StyliteOverheardModel.in(III)Z -/
def ct180 : Nat → Bool := fun _ => false
set_option maxRecDepth 100000 in
theorem v180_0 {d : Nat} {b : Bool} {M : M2} {Q : QT} {x0 : Int32} {x1 : Int32} {x2 : Int32} (h : brK (x0 < x1) (Q (some (.int 0)) (FR b, M)) (brK (x2 < x0) (Q (some (.int 0)) (FR b, M)) (Q (some (.int 1)) (FR b, M)))) :
    WP (d + 1) 107 180 0 [.int x0, .int x1, .int x2] [] 107 (FR b, M) Q := blk 10 ct180 h
/- StyliteOverheardModel.addStall(III)I -/
def ct181 : Nat → Bool := fun _ => false
set_option maxRecDepth 100000 in
theorem v181_0 {d : Nat} {b : Bool} {M : M2} {Q : QT} {x1 : Int32} {x2 : Int32} {x3 : Int32} (h : iK (gI M 67 2) 6 (iK (gI M 67 2) 6 (iK (gI M 67 2) 6 (iK (gI M 67 2) 6 (Q (some (.int (((gI M 67 2) + 1) - 1))) (FR b, sI (sI (sI (sI (sI M 69 (ix (gI M 67 2)) x1) 70 (ix (gI M 67 2)) x2) 71 (ix (gI M 67 2)) x3) 72 (ix (gI M 67 2)) 0) 67 2 ((gI M 67 2) + 1))))))) :
    WP (d + 1) 107 181 0 [.ref 67, .int x1, .int x2, .int x3] [] 107 (FR b, M) Q := blk 36 ct181 h
/- StyliteOverheardModel.stalls(III)I -/
def ct182 : Nat → Bool := fun pc => Nat.beq pc 58 || Nat.beq pc 110 || Nat.beq pc 137 || Nat.beq pc 156 || Nat.beq pc 178
set_option maxRecDepth 100000 in
theorem v182_0 {d : Nat} {b : Bool} {M : M2} {Q : QT} {x1 : Int32} {x2 : Int32} {x3 : Int32} {u4 : Value} {u5 : Value} {u6 : Value} {u7 : Value} (h : WP d 107 183 0 [.int x1] [] 107 (FR b, M) (rI (fun v2 N1 => N1.1 = FR b ∧ (brK (v2 = 0) (Q (some (.int (-1))) (FR b, N1.2)) (WP d 107 180 0 [.int x3, .int 1, .int 6] [] 107 (FR b, N1.2) (rI (fun v4 N3 => N3.1 = FR b ∧ (brK (v4 = 0) (Q (some (.int (-1))) (FR b, N3.2)) (iK x1 6 (brK ((gI N3.2 103 (ix x1)) = (-1)) (iK x1 6 (brK ((gI N3.2 103 (ix x1)) = (-1)) (Q (some (.int 0)) (FR b, N3.2)) (WP (d + 1) 107 182 58 [.ref 67, .int x1, .int x2, .int x3, .int 0, u5, u6, u7] [] 107 (FR b, N3.2) Q))) (iK x1 6 (brK ((gI N3.2 103 (ix x1)) = (-4)) (iK x1 6 (brK ((gI N3.2 103 (ix x1)) = (-1)) (Q (some (.int 0)) (FR b, N3.2)) (WP (d + 1) 107 182 58 [.ref 67, .int x1, .int x2, .int x3, .int 0, u5, u6, u7] [] 107 (FR b, N3.2) Q))) (Q (some (.int (-12))) (FR b, N3.2)))))))))))))) :
    WP (d + 1) 107 182 0 [.ref 67, .int x1, .int x2, .int x3, u4, u5, u6, u7] [] 107 (FR b, M) Q := blk 30 ct182 h
set_option maxRecDepth 100000 in
theorem v182_58 {d : Nat} {b : Bool} {M : M2} {Q : QT} {x1 : Int32} {x2 : Int32} {x3 : Int32} {x4 : Int32} {u5 : Value} {u6 : Value} {u7 : Value} (h : brK (x3 ≤ x4) (Q (some (.int x3)) (FR b, M)) (brK ((lg_cmp (x2.toInt64 + ((3 * x4).toInt64)) 0) < 0) (Q (some (.int x4)) (FR b, M)) (iK x1 6 (brK (0 ≤ (lg_cmp ((x2.toInt64 + ((3 * x4).toInt64)) + 2) ((gI M 104 (ix x1)).toInt64))) (Q (some (.int x4)) (FR b, M)) (brK ((gI M 67 2) = 6) (Q (some (.int x4)) (FR b, M)) (WP (d + 1) 107 182 110 [.ref 67, .int x1, .int x2, .int x3, .int x4, .long (x2.toInt64 + ((3 * x4).toInt64)), U, u7] [] 107 (FR b, M) Q)))))) :
    WP (d + 1) 107 182 58 [.ref 67, .int x1, .int x2, .int x3, .int x4, u5, u6, u7] [] 107 (FR b, M) Q := blk 32 ct182 h
set_option maxRecDepth 100000 in
theorem v182_110 {d : Nat} {b : Bool} {M : M2} {Q : QT} {x1 : Int32} {x2 : Int32} {x3 : Int32} {x4 : Int32} {x5 : Int64} {u6 : Value} {u7 : Value} (h : iK ((60 * x1) + x5.toInt32) 360 (WP d 107 180 0 [.int ((gL M 105 (ix ((60 * x1) + x5.toInt32))).toInt32), .int 0, .int 65535] [] 107 (FR b, M) (rI (fun v2 N1 => N1.1 = FR b ∧ (brK (v2 = 0) (Q (some (.int x4)) (FR b, N1.2)) (WP (d + 1) 107 182 137 [.ref 67, .int x1, .int x2, .int x3, .int x4, .long x5, kl u6, .int ((60 * x1) + x5.toInt32)] [] 107 (FR b, N1.2) Q)))))) :
    WP (d + 1) 107 182 110 [.ref 67, .int x1, .int x2, .int x3, .int x4, .long x5, u6, u7] [] 107 (FR b, M) Q := blk 19 ct182 h
set_option maxRecDepth 100000 in
theorem v182_137 {d : Nat} {b : Bool} {M : M2} {Q : QT} {x1 : Int32} {x2 : Int32} {x3 : Int32} {x4 : Int32} {u5 : Value} {u6 : Value} {x7 : Int32} (h : iK (x7 + 1) 360 (WP d 107 180 0 [.int ((gL M 105 (ix (x7 + 1))).toInt32), .int 0, .int 99] [] 107 (FR b, M) (rI (fun v2 N1 => N1.1 = FR b ∧ (brK (v2 = 0) (Q (some (.int x4)) (FR b, N1.2)) (WP (d + 1) 107 182 156 [.ref 67, .int x1, .int x2, .int x3, .int x4, u5, u6, .int x7] [] 107 (FR b, N1.2) Q)))))) :
    WP (d + 1) 107 182 137 [.ref 67, .int x1, .int x2, .int x3, .int x4, u5, u6, .int x7] [] 107 (FR b, M) Q := blk 14 ct182 h
set_option maxRecDepth 100000 in
theorem v182_156 {d : Nat} {b : Bool} {M : M2} {Q : QT} {x1 : Int32} {x2 : Int32} {x3 : Int32} {x4 : Int32} {u5 : Value} {u6 : Value} {x7 : Int32} (h : iK (x7 + 2) 360 (WP d 107 180 0 [.int ((gL M 105 (ix (x7 + 2))).toInt32), .int 0, .int 9] [] 107 (FR b, M) (rI (fun v2 N1 => N1.1 = FR b ∧ (brK (v2 = 0) (Q (some (.int x4)) (FR b, N1.2)) (WP (d + 1) 107 182 178 [.ref 67, .int x1, .int x2, .int x3, .int x4, u5, u6, .int x7] [] 107 (FR b, N1.2) Q)))))) :
    WP (d + 1) 107 182 156 [.ref 67, .int x1, .int x2, .int x3, .int x4, u5, u6, .int x7] [] 107 (FR b, M) Q := blk 14 ct182 h
set_option maxRecDepth 100000 in
theorem v182_178 {d : Nat} {b : Bool} {M : M2} {Q : QT} {x1 : Int32} {x2 : Int32} {x3 : Int32} {x4 : Int32} {u5 : Value} {u6 : Value} {x7 : Int32} (h : iK x7 360 (iK (x7 + 1) 360 (iK (x7 + 2) 360 (WP d 107 181 0 [.ref 67, .int ((gL M 105 (ix x7)).toInt32), .int ((gL M 105 (ix (x7 + 1))).toInt32), .int ((gL M 105 (ix (x7 + 2))).toInt32)] [] 107 (FR b, M) (rI (fun v2 N1 => N1.1 = FR b ∧ (WP (d + 1) 107 182 58 [.ref 67, .int x1, .int x2, .int x3, .int (x4 + 1), u5, u6, .int x7] [] 107 (FR b, N1.2) Q))))))) :
    WP (d + 1) 107 182 178 [.ref 67, .int x1, .int x2, .int x3, .int x4, u5, u6, .int x7] [] 107 (FR b, M) Q := blk 26 ct182 h
/- StyliteOverheardModel.isShelf(I)Z -/
def ct183 : Nat → Bool := fun _ => false
set_option maxRecDepth 100000 in
theorem v183_0 {d : Nat} {b : Bool} {M : M2} {Q : QT} {x0 : Int32} (h : WP d 107 180 0 [.int x0, .int 0, .int 5] [] 107 (FR b, M) (rI (fun v2 N1 => N1.1 = FR b ∧ (iK v2 2 (Q (some (.int v2)) (FR b, N1.2)))))) :
    WP (d + 1) 107 183 0 [.int x0] [] 107 (FR b, M) Q := blk 6 ct183 h
/- StyliteOverheardModel.school(I)I -/
def ct184 : Nat → Bool := fun _ => false
set_option maxRecDepth 100000 in
theorem v184_0 {d : Nat} {b : Bool} {M : M2} {Q : QT} {x1 : Int32} (h : WP d 107 180 0 [.int x1, .int 0, .int 65535] [] 107 (FR b, M) (rI (fun v2 N1 => N1.1 = FR b ∧ (brK (v2 = 0) (Q (some (.int (-1))) (FR b, N1.2)) (brK ((gI N1.2 67 7) = 5) (Q (some (.int (-3))) (FR b, N1.2)) (iK (gI N1.2 67 7) 5 (Q (some (.int (((gI N1.2 67 7) + 1) - 1))) (FR b, sI (sI N1.2 73 (ix (gI N1.2 67 7)) x1) 67 7 ((gI N1.2 67 7) + 1))))))))) :
    WP (d + 1) 107 184 0 [.ref 67, .int x1] [] 107 (FR b, M) Q := blk 27 ct184 h
/- StyliteOverheardModel.undo()I -/
def ct185 : Nat → Bool := fun _ => false
set_option maxRecDepth 100000 in
theorem v185_0 {d : Nat} {b : Bool} {M : M2} {Q : QT}  (h : brK ((gI M 67 9) = 0) (Q (some (.int (-5))) (FR b, M)) (iK ((gI M 67 9) - 1) 40 (iK ((gI M 67 9) - 1) 40 (iK ((gI M 67 9) - 1) 40 (WP d 107 186 0 [.ref 67, .int (gI M 74 (ix ((gI M 67 9) - 1))), .int (gI M 75 (ix ((gI M 67 9) - 1))), .int (gI M 76 (ix ((gI M 67 9) - 1)))] [] 107 (FR b, sI (sI M 67 9 ((gI M 67 9) - 1)) 67 10 ((gI M 67 10) + 1)) (rV (fun N1 => N1.1 = FR b ∧ (Q (some (.int (gI N1.2 67 9))) (FR b, N1.2))))))))) :
    WP (d + 1) 107 185 0 [.ref 67] [] 107 (FR b, M) Q := blk 36 ct185 h
/- StyliteOverheardModel.lays(III)V -/
def ct186 : Nat → Bool := fun _ => false
set_option maxRecDepth 100000 in
theorem v186_0 {d : Nat} {b : Bool} {M : M2} {Q : QT} {x1 : Int32} {x2 : Int32} {x3 : Int32} (h : brK (7 ≤ x1) (brK (x1 = 7) (iK x2 6 (Q none (FR b, sI M 69 (ix x2) x3))) (brK (x1 = 8) (iK x2 6 (Q none (FR b, sI M 70 (ix x2) x3))) (brK (x1 = 9) (iK x2 6 (Q none (FR b, sI M 71 (ix x2) x3))) (iK x2 5 (Q none (FR b, sI M 73 (ix x2) x3)))))) (iK x1 7 (Q none (FR b, sI M 68 (ix x1) x3)))) :
    WP (d + 1) 107 186 0 [.ref 67, .int x1, .int x2, .int x3] [] 107 (FR b, M) Q := blk 20 ct186 h
/- StyliteOverheardModel.redo()I -/
def ct187 : Nat → Bool := fun _ => false
set_option maxRecDepth 100000 in
theorem v187_0 {d : Nat} {b : Bool} {M : M2} {Q : QT}  (h : brK ((gI M 67 10) = 0) (Q (some (.int (-5))) (FR b, M)) (iK (gI M 67 9) 40 (iK (gI M 67 9) 40 (iK (gI M 67 9) 40 (WP d 107 186 0 [.ref 67, .int (gI M 74 (ix (gI M 67 9))), .int (gI M 75 (ix (gI M 67 9))), .int (gI M 77 (ix (gI M 67 9)))] [] 107 (FR b, M) (rV (fun N1 => N1.1 = FR b ∧ (Q (some (.int ((gI N1.2 67 10) - 1))) (FR b, sI (sI N1.2 67 9 ((gI N1.2 67 9) + 1)) 67 10 ((gI N1.2 67 10) - 1)))))))))) :
    WP (d + 1) 107 187 0 [.ref 67] [] 107 (FR b, M) Q := blk 36 ct187 h
/- StyliteOverheardModel.mend(III)I -/
def ct188 : Nat → Bool := fun _ => false
set_option maxRecDepth 100000 in
theorem v188_0 {d : Nat} {b : Bool} {M : M2} {Q : QT} {x1 : Int32} {x2 : Int32} {x3 : Int32} (h : WP d 107 189 0 [.ref 67, .int x1, .int x2] [] 107 (FR b, M) (rI (fun v2 N1 => N1.1 = FR b ∧ (brK (v2 = 0) (Q (some (.int (-1))) (FR b, N1.2)) (WP d 107 192 0 [.int x2, .int x3] [] 107 (FR b, N1.2) (rI (fun v4 N3 => N3.1 = FR b ∧ (brK (v4 = 0) (Q (some (.int (-1))) (FR b, N3.2)) (WP d 107 194 0 [.ref 67, .int x2, .int x1, .int x3, U, U] [] 107 (FR b, N3.2) (rI (fun v6 N5 => N5.1 = FR b ∧ (Q (some (.int v6)) (FR b, N5.2))))))))))))) :
    WP (d + 1) 107 188 0 [.ref 67, .int x1, .int x2, .int x3] [] 107 (FR b, M) Q := blk 17 ct188 h
/- StyliteOverheardModel.isOne(II)Z -/
def ct189 : Nat → Bool := fun _ => false
set_option maxRecDepth 100000 in
theorem v189_0 {d : Nat} {b : Bool} {M : M2} {Q : QT} {x1 : Int32} {x2 : Int32} (h : WP d 107 180 0 [.int x2, .int 0, .int 6] [] 107 (FR b, M) (rI (fun v2 N1 => N1.1 = FR b ∧ (brK (v2 = 0) (WP d 107 180 0 [.int x2, .int 7, .int 9] [] 107 (FR b, N1.2) (rI (fun v4 N3 => N3.1 = FR b ∧ (brK (v4 = 0) (brK (x2 = 10) (WP d 107 191 0 [.ref 67, .int x1] [] 107 (FR b, N3.2) (rI (fun v6 N5 => N5.1 = FR b ∧ (brK (v6 = 0) (Q (some (.int 0)) (FR b, N5.2)) (Q (some (.int 1)) (FR b, N5.2)))))) (Q (some (.int 0)) (FR b, N3.2))) (WP d 107 190 0 [.ref 67, .int x1] [] 107 (FR b, N3.2) (rI (fun v8 N7 => N7.1 = FR b ∧ (iK v8 2 (Q (some (.int v8)) (FR b, N7.2)))))))))) (brK (x1 = 0) (Q (some (.int 1)) (FR b, N1.2)) (Q (some (.int 0)) (FR b, N1.2))))))) :
    WP (d + 1) 107 189 0 [.ref 67, .int x1, .int x2] [] 107 (FR b, M) Q := blk 21 ct189 h
/- StyliteOverheardModel.isStall(I)Z -/
def ct190 : Nat → Bool := fun _ => false
set_option maxRecDepth 100000 in
theorem v190_0 {d : Nat} {b : Bool} {M : M2} {Q : QT} {x1 : Int32} (h : WP d 107 180 0 [.int x1, .int 0, .int ((gI M 67 2) - 1)] [] 107 (FR b, M) (rI (fun v2 N1 => N1.1 = FR b ∧ (iK v2 2 (Q (some (.int v2)) (FR b, N1.2)))))) :
    WP (d + 1) 107 190 0 [.ref 67, .int x1] [] 107 (FR b, M) Q := blk 9 ct190 h
/- StyliteOverheardModel.isSchool(I)Z -/
def ct191 : Nat → Bool := fun _ => false
set_option maxRecDepth 100000 in
theorem v191_0 {d : Nat} {b : Bool} {M : M2} {Q : QT} {x1 : Int32} (h : WP d 107 180 0 [.int x1, .int 0, .int ((gI M 67 7) - 1)] [] 107 (FR b, M) (rI (fun v2 N1 => N1.1 = FR b ∧ (iK v2 2 (Q (some (.int v2)) (FR b, N1.2)))))) :
    WP (d + 1) 107 191 0 [.ref 67, .int x1] [] 107 (FR b, M) Q := blk 9 ct191 h
/- StyliteOverheardModel.mayHave(II)Z -/
def ct192 : Nat → Bool := fun _ => false
set_option maxRecDepth 100000 in
theorem v192_0 {d : Nat} {b : Bool} {M : M2} {Q : QT} {x0 : Int32} {x1 : Int32} (h : (x0 = 0 → WP d 107 193 0 [.int x1] [] 107 (FR b, M) (rI (fun v2 N1 => N1.1 = FR b ∧ (iK v2 2 (Q (some (.int v2)) (FR b, N1.2)))))) ∧ (¬ x0 = 0 → (x0 = 1 → WP d 107 180 0 [.int x1, .int 0, .int 9] [] 107 (FR b, M) (rI (fun v4 N3 => N3.1 = FR b ∧ (iK v4 2 (Q (some (.int v4)) (FR b, N3.2)))))) ∧ (¬ x0 = 1 → (x0 = 2 → WP d 107 193 0 [.int x1] [] 107 (FR b, M) (rI (fun v6 N5 => N5.1 = FR b ∧ (iK v6 2 (Q (some (.int v6)) (FR b, N5.2)))))) ∧ (¬ x0 = 2 → (x0 = 3 → WP d 107 180 0 [.int x1, .int 0, .int 23] [] 107 (FR b, M) (rI (fun v8 N7 => N7.1 = FR b ∧ (iK v8 2 (Q (some (.int v8)) (FR b, N7.2)))))) ∧ (¬ x0 = 3 → (x0 = 4 → WP d 107 180 0 [.int x1, .int 0, .int 3] [] 107 (FR b, M) (rI (fun v10 N9 => N9.1 = FR b ∧ (iK v10 2 (Q (some (.int v10)) (FR b, N9.2)))))) ∧ (¬ x0 = 4 → (x0 = 5 → WP d 107 180 0 [.int x1, .int 0, .int 9] [] 107 (FR b, M) (rI (fun v12 N11 => N11.1 = FR b ∧ (iK v12 2 (Q (some (.int v12)) (FR b, N11.2)))))) ∧ (¬ x0 = 5 → (x0 = 6 → WP d 107 180 0 [.int x1, .int 0, .int 9] [] 107 (FR b, M) (rI (fun v14 N13 => N13.1 = FR b ∧ (iK v14 2 (Q (some (.int v14)) (FR b, N13.2)))))) ∧ (¬ x0 = 6 → (x0 = 7 → WP d 107 180 0 [.int x1, .int 0, .int 65535] [] 107 (FR b, M) (rI (fun v16 N15 => N15.1 = FR b ∧ (iK v16 2 (Q (some (.int v16)) (FR b, N15.2)))))) ∧ (¬ x0 = 7 → (x0 = 8 → WP d 107 180 0 [.int x1, .int 0, .int 99] [] 107 (FR b, M) (rI (fun v18 N17 => N17.1 = FR b ∧ (iK v18 2 (Q (some (.int v18)) (FR b, N17.2)))))) ∧ (¬ x0 = 8 → (x0 = 9 → WP d 107 180 0 [.int x1, .int 0, .int 9] [] 107 (FR b, M) (rI (fun v20 N19 => N19.1 = FR b ∧ (iK v20 2 (Q (some (.int v20)) (FR b, N19.2)))))) ∧ (¬ x0 = 9 → (x0 = 10 → WP d 107 180 0 [.int x1, .int 0, .int 65535] [] 107 (FR b, M) (rI (fun v22 N21 => N21.1 = FR b ∧ (iK v22 2 (Q (some (.int v22)) (FR b, N21.2)))))) ∧ (¬ x0 = 10 → WP d 107 180 0 [.int x1, .int 0, .int 9] [] 107 (FR b, M) (rI (fun v24 N23 => N23.1 = FR b ∧ (iK v24 2 (Q (some (.int v24)) (FR b, N23.2))))))))))))))))) :
    WP (d + 1) 107 192 0 [.int x0, .int x1] [] 107 (FR b, M) Q := blk 8 ct192 h
/- StyliteOverheardModel.isThing(I)Z -/
def ct193 : Nat → Bool := fun _ => false
set_option maxRecDepth 100000 in
theorem v193_0 {d : Nat} {b : Bool} {M : M2} {Q : QT} {x0 : Int32} (h : WP d 107 180 0 [.int x0, .int 0, .int 15] [] 107 (FR b, M) (rI (fun v2 N1 => N1.1 = FR b ∧ (iK v2 2 (Q (some (.int v2)) (FR b, N1.2)))))) :
    WP (d + 1) 107 193 0 [.int x0] [] 107 (FR b, M) Q := blk 6 ct193 h
/- StyliteOverheardModel.changes(III)I -/
def ct194 : Nat → Bool := fun pc => Nat.beq pc 34 || Nat.beq pc 121
set_option maxRecDepth 100000 in
theorem v194_0 {d : Nat} {b : Bool} {M : M2} {Q : QT} {x1 : Int32} {x2 : Int32} {x3 : Int32} {u4 : Value} {u5 : Value} (h : WP d 107 195 0 [.ref 67, .int x1, .int x2] [] 107 (FR b, M) (rI (fun v2 N1 => N1.1 = FR b ∧ (brK (v2 = x3) (Q (some (.int v2)) (FR b, N1.2)) (brK ((gI N1.2 67 9) = 40) (WP (d + 1) 107 194 34 [.ref 67, .int x1, .int x2, .int x3, .int v2, .int 1] [] 107 (FR b, sI N1.2 67 10 0) Q) (WP (d + 1) 107 194 121 [.ref 67, .int x1, .int x2, .int x3, .int v2, u5] [] 107 (FR b, sI N1.2 67 10 0) Q)))))) :
    WP (d + 1) 107 194 0 [.ref 67, .int x1, .int x2, .int x3, u4, u5] [] 107 (FR b, M) Q := blk 19 ct194 h
set_option maxRecDepth 100000 in
theorem v194_34 {d : Nat} {b : Bool} {M : M2} {Q : QT} {x1 : Int32} {x2 : Int32} {x3 : Int32} {x4 : Int32} {x5 : Int32} (h : brK (40 ≤ x5) (WP (d + 1) 107 194 121 [.ref 67, .int x1, .int x2, .int x3, .int x4, .int x5] [] 107 (FR b, sI M 67 9 ((gI M 67 9) - 1)) Q) (iK x5 40 (iK (x5 - 1) 40 (iK x5 40 (iK (x5 - 1) 40 (iK x5 40 (iK (x5 - 1) 40 (iK x5 40 (iK (x5 - 1) 40 (WP (d + 1) 107 194 34 [.ref 67, .int x1, .int x2, .int x3, .int x4, .int (x5 + 1)] [] 107 (FR b, sI (sI (sI (sI M 74 (ix (x5 - 1)) (gI M 74 (ix x5))) 75 (ix (x5 - 1)) (gI M 75 (ix x5))) 76 (ix (x5 - 1)) (gI M 76 (ix x5))) 77 (ix (x5 - 1)) (gI M 77 (ix x5))) Q)))))))))) :
    WP (d + 1) 107 194 34 [.ref 67, .int x1, .int x2, .int x3, .int x4, .int x5] [] 107 (FR b, M) Q := blk 47 ct194 h
set_option maxRecDepth 100000 in
theorem v194_121 {d : Nat} {b : Bool} {M : M2} {Q : QT} {x1 : Int32} {x2 : Int32} {x3 : Int32} {x4 : Int32} {u5 : Value} (h : iK (gI M 67 9) 40 (iK (gI M 67 9) 40 (iK (gI M 67 9) 40 (iK (gI M 67 9) 40 (WP d 107 186 0 [.ref 67, .int x1, .int x2, .int x3] [] 107 (FR b, sI (sI (sI (sI (sI M 74 (ix (gI M 67 9)) x1) 75 (ix (gI M 67 9)) x2) 76 (ix (gI M 67 9)) x4) 77 (ix (gI M 67 9)) x3) 67 9 ((gI M 67 9) + 1)) (rV (fun N1 => N1.1 = FR b ∧ (Q (some (.int x4)) (FR b, N1.2))))))))) :
    WP (d + 1) 107 194 121 [.ref 67, .int x1, .int x2, .int x3, .int x4, u5] [] 107 (FR b, M) Q := blk 38 ct194 h
/- StyliteOverheardModel.valueAt(II)I -/
def ct195 : Nat → Bool := fun _ => false
set_option maxRecDepth 100000 in
theorem v195_0 {d : Nat} {b : Bool} {M : M2} {Q : QT} {x1 : Int32} {x2 : Int32} (h : brK (7 ≤ x1) (brK (x1 = 7) (iK x2 6 (Q (some (.int (gI M 69 (ix x2)))) (FR b, M))) (brK (x1 = 8) (iK x2 6 (Q (some (.int (gI M 70 (ix x2)))) (FR b, M))) (brK (x1 = 9) (iK x2 6 (Q (some (.int (gI M 71 (ix x2)))) (FR b, M))) (iK x2 5 (Q (some (.int (gI M 73 (ix x2)))) (FR b, M)))))) (iK x1 7 (Q (some (.int (gI M 68 (ix x1)))) (FR b, M)))) :
    WP (d + 1) 107 195 0 [.ref 67, .int x1, .int x2] [] 107 (FR b, M) Q := blk 19 ct195 h
/- StyliteOverheardModel.of(II)I -/
def ct196 : Nat → Bool := fun _ => false
set_option maxRecDepth 100000 in
theorem v196_0 {d : Nat} {b : Bool} {M : M2} {Q : QT} {x1 : Int32} {x2 : Int32} (h : brK (x2 = 11) (WP d 107 190 0 [.ref 67, .int x1] [] 107 (FR b, M) (rI (fun v6 N5 => N5.1 = FR b ∧ (brK (v6 = 0) (Q (some (.int (-1))) (FR b, N5.2)) (iK x1 6 (Q (some (.int (gI N5.2 72 (ix x1)))) (FR b, N5.2))))))) (WP d 107 189 0 [.ref 67, .int x1, .int x2] [] 107 (FR b, M) (rI (fun v2 N1 => N1.1 = FR b ∧ (brK (v2 = 0) (Q (some (.int (-1))) (FR b, N1.2)) (WP d 107 195 0 [.ref 67, .int x2, .int x1] [] 107 (FR b, N1.2) (rI (fun v4 N3 => N3.1 = FR b ∧ (Q (some (.int v4)) (FR b, N3.2)))))))))) :
    WP (d + 1) 107 196 0 [.ref 67, .int x1, .int x2] [] 107 (FR b, M) Q := blk 15 ct196 h
/- StyliteOverheardModel.feed(I)I -/
def ct197 : Nat → Bool := fun _ => false
set_option maxRecDepth 100000 in
theorem v197_0 {d : Nat} {b : Bool} {M : M2} {Q : QT} {x1 : Int32} (h : WP d 107 180 0 [.int x1, .int 0, .int 255] [] 107 (FR b, M) (rI (fun v2 N1 => N1.1 = FR b ∧ (brK (v2 = 0) (Q (some (.int (-1))) (FR b, N1.2)) (brK ((gI N1.2 67 16) = 120) (Q (some (.int (-3))) (FR b, N1.2)) (iK (gI N1.2 67 16) 120 (Q (some (.int ((gI N1.2 67 16) + 1))) (FR b, sI (sI N1.2 78 (ix (gI N1.2 67 16)) x1.toInt8.toInt32.toInt8.toInt32) 67 16 ((gI N1.2 67 16) + 1))))))))) :
    WP (d + 1) 107 197 0 [.ref 67, .int x1] [] 107 (FR b, M) Q := blk 26 ct197 h
/- StyliteOverheardModel.law()I -/
def ct198 : Nat → Bool := fun _ => false
set_option maxRecDepth 100000 in
theorem v198_0 {d : Nat} {b : Bool} {M : M2} {Q : QT} {u1 : Value} (h : WP d 107 199 0 [.ref 67, .int 0, U] [] 107 (FR b, M) (rI (fun v2 N1 => N1.1 = FR b ∧ (brK (v2 < 0) (Q (some (.int 1)) (FR b, sI N1.2 67 28 1)) (Q (some (.int ((-100) - v2))) (FR b, N1.2)))))) :
    WP (d + 1) 107 198 0 [.ref 67, u1] [] 107 (FR b, M) Q := blk 12 ct198 h
/- StyliteOverheardModel.readText(I)I -/
def ct199 : Nat → Bool := fun pc => Nat.beq pc 31 || Nat.beq pc 64 || Nat.beq pc 105 || Nat.beq pc 177
set_option maxRecDepth 100000 in
theorem v199_0 {d : Nat} {b : Bool} {M : M2} {Q : QT} {x1 : Int32} {u2 : Value} (h : WP d 107 200 0 [.ref 67, U] [] 107 (FR b, sI (sI (sI (sI (sI M 67 17 0) 67 18 (-1)) 67 19 0) 67 20 0) 81 1 0) (rV (fun N1 => N1.1 = FR b ∧ (WP (d + 1) 107 199 31 [.ref 67, .int x1, u2] [] 107 (FR b, N1.2) Q)))) :
    WP (d + 1) 107 199 0 [.ref 67, .int x1, u2] [] 107 (FR b, M) Q := blk 21 ct199 h
set_option maxRecDepth 100000 in
theorem v199_31 {d : Nat} {b : Bool} {M : M2} {Q : QT} {x1 : Int32} {u2 : Value} (h : brK (0 ≤ (gI M 67 18)) (WP (d + 1) 107 199 64 [.ref 67, .int x1, u2] [] 107 (FR b, M) Q) (WP d 107 207 0 [.ref 67] [] 107 (FR b, M) (rI (fun v2 N1 => N1.1 = FR b ∧ (brK (v2 = 59) (WP d 107 200 0 [.ref 67, U] [] 107 (FR b, sI N1.2 67 17 ((gI N1.2 67 17) + 1)) (rV (fun N3 => N3.1 = FR b ∧ (WP (d + 1) 107 199 31 [.ref 67, .int x1, u2] [] 107 (FR b, N3.2) Q)))) (WP (d + 1) 107 199 64 [.ref 67, .int x1, u2] [] 107 (FR b, N1.2) Q)))))) :
    WP (d + 1) 107 199 31 [.ref 67, .int x1, u2] [] 107 (FR b, M) Q := blk 18 ct199 h
set_option maxRecDepth 100000 in
theorem v199_64 {d : Nat} {b : Bool} {M : M2} {Q : QT} {x1 : Int32} {u2 : Value} (h : brK (0 ≤ (gI M 67 18)) (brK ((gI M 67 18) < 0) (WP (d + 1) 107 199 105 [.ref 67, .int x1, .int 0] [] 107 (FR b, sI M 67 16 0) Q) (Q (some (.int (gI M 67 18))) (FR b, sI M 67 16 0))) (brK ((gI M 67 16) ≤ (gI M 67 17)) (brK ((gI M 67 18) < 0) (WP (d + 1) 107 199 105 [.ref 67, .int x1, .int 0] [] 107 (FR b, sI M 67 16 0) Q) (Q (some (.int (gI M 67 18))) (FR b, sI M 67 16 0))) (WP d 107 211 0 [.ref 67] [] 107 (FR b, M) (rV (fun N1 => N1.1 = FR b ∧ (brK ((gI N1.2 67 18) < 0) (WP (d + 1) 107 199 105 [.ref 67, .int x1, .int 0] [] 107 (FR b, sI N1.2 67 16 0) Q) (Q (some (.int (gI N1.2 67 18))) (FR b, sI N1.2 67 16 0)))))))) :
    WP (d + 1) 107 199 64 [.ref 67, .int x1, u2] [] 107 (FR b, M) Q := blk 20 ct199 h
set_option maxRecDepth 100000 in
theorem v199_105 {d : Nat} {b : Bool} {M : M2} {Q : QT} {x1 : Int32} {x2 : Int32} (h : brK ((gI M 67 20) ≤ x2) (iK x1 2 (WP (d + 1) 107 199 177 [.ref 67, .int x1, .int 0] [] 107 (FR b, sI M 81 (ix x1) (gI M 81 1)) Q)) (iK (130 + x2) 260 (iK ((130 * x1) + x2) 260 (iK (130 + x2) 260 (iK ((130 * x1) + x2) 260 (WP (d + 1) 107 199 105 [.ref 67, .int x1, .int (x2 + 1)] [] 107 (FR b, sI (sI M 79 (ix ((130 * x1) + x2)) ((gI M 79 (ix (130 + x2))).toInt8.toInt32)) 80 (ix ((130 * x1) + x2)) (gI M 80 (ix (130 + x2)))) Q)))))) :
    WP (d + 1) 107 199 105 [.ref 67, .int x1, .int x2] [] 107 (FR b, M) Q := blk 36 ct199 h
set_option maxRecDepth 100000 in
theorem v199_177 {d : Nat} {b : Bool} {M : M2} {Q : QT} {x1 : Int32} {x2 : Int32} (h : iK x1 2 (brK ((gI M 81 (ix x1)) ≤ x2) (Q (some (.int (-1))) (FR b, M)) (iK (61 + x2) 122 (iK ((61 * x1) + x2) 122 (iK (61 + x2) 122 (iK ((61 * x1) + x2) 122 (WP (d + 1) 107 199 177 [.ref 67, .int x1, .int (x2 + 1)] [] 107 (FR b, sI (sI M 82 (ix ((61 * x1) + x2)) ((gI M 82 (ix (61 + x2))).toInt16.toInt32)) 83 (ix ((61 * x1) + x2)) ((gI M 83 (ix (61 + x2))).toInt16.toInt32)) Q))))))) :
    WP (d + 1) 107 199 177 [.ref 67, .int x1, .int x2] [] 107 (FR b, M) Q := blk 38 ct199 h
/- StyliteOverheardModel.line()V -/
def ct200 : Nat → Bool := fun pc => Nat.beq pc 66
set_option maxRecDepth 100000 in
theorem v200_0 {d : Nat} {b : Bool} {M : M2} {Q : QT} {u1 : Value} (h : iK (61 + (gI M 81 1)) 122 (WP d 107 201 0 [.ref 67] [] 107 (FR b, sI M 82 (ix (61 + (gI M 81 1))) (((gI M 67 20).toInt16.toInt32).toInt16.toInt32)) (rV (fun N1 => N1.1 = FR b ∧ (brK (0 ≤ (gI N1.2 67 18)) (WP (d + 1) 107 200 66 [.ref 67, .int (61 + (gI M 81 1))] [] 107 (FR b, N1.2) Q) (WP d 107 207 0 [.ref 67] [] 107 (FR b, N1.2) (rI (fun v3 N2 => N2.1 = FR b ∧ (brK (v3 = 63) (iK (61 + (gI M 81 1)) 122 (WP d 107 201 0 [.ref 67] [] 107 (FR b, sI (sI N2.2 67 17 ((gI N2.2 67 17) + 1)) 82 (ix (61 + (gI M 81 1))) (((gI N2.2 67 20).toInt16.toInt32).toInt16.toInt32)) (rV (fun N4 => N4.1 = FR b ∧ (WP (d + 1) 107 200 66 [.ref 67, .int (61 + (gI M 81 1))] [] 107 (FR b, N4.2) Q))))) (WP (d + 1) 107 200 66 [.ref 67, .int (61 + (gI M 81 1))] [] 107 (FR b, N2.2) Q)))))))))) :
    WP (d + 1) 107 200 0 [.ref 67, u1] [] 107 (FR b, M) Q := blk 40 ct200 h
set_option maxRecDepth 100000 in
theorem v200_66 {d : Nat} {b : Bool} {M : M2} {Q : QT} {x1 : Int32} (h : iK x1 122 (Q none (FR b, sI (sI M 83 (ix x1) (((gI M 67 20).toInt16.toInt32).toInt16.toInt32)) 81 1 ((gI M 81 1) + 1)))) :
    WP (d + 1) 107 200 66 [.ref 67, .int x1] [] 107 (FR b, M) Q := blk 17 ct200 h
/- StyliteOverheardModel.either()V -/
def ct201 : Nat → Bool := fun pc => Nat.beq pc 4
set_option maxRecDepth 100000 in
theorem v201_0 {d : Nat} {b : Bool} {M : M2} {Q : QT}  (h : WP d 107 202 0 [.ref 67] [] 107 (FR b, M) (rV (fun N1 => N1.1 = FR b ∧ (WP (d + 1) 107 201 4 [.ref 67] [] 107 (FR b, N1.2) Q)))) :
    WP (d + 1) 107 201 0 [.ref 67] [] 107 (FR b, M) Q := blk 4 ct201 h
set_option maxRecDepth 100000 in
theorem v201_4 {d : Nat} {b : Bool} {M : M2} {Q : QT}  (h : brK (0 ≤ (gI M 67 18)) (Q none (FR b, M)) (WP d 107 207 0 [.ref 67] [] 107 (FR b, M) (rI (fun v2 N1 => N1.1 = FR b ∧ (brK (v2 = 124) (WP d 107 202 0 [.ref 67] [] 107 (FR b, sI N1.2 67 17 ((gI N1.2 67 17) + 1)) (rV (fun N3 => N3.1 = FR b ∧ (WP d 107 209 0 [.ref 67, .int 124, .int 0] [] 107 (FR b, N3.2) (rV (fun N4 => N4.1 = FR b ∧ (WP (d + 1) 107 201 4 [.ref 67] [] 107 (FR b, N4.2) Q))))))) (Q none (FR b, N1.2))))))) :
    WP (d + 1) 107 201 4 [.ref 67] [] 107 (FR b, M) Q := blk 22 ct201 h
/- StyliteOverheardModel.both()V -/
def ct202 : Nat → Bool := fun pc => Nat.beq pc 4
set_option maxRecDepth 100000 in
theorem v202_0 {d : Nat} {b : Bool} {M : M2} {Q : QT}  (h : WP d 107 203 0 [.ref 67, U] [] 107 (FR b, M) (rV (fun N1 => N1.1 = FR b ∧ (WP (d + 1) 107 202 4 [.ref 67] [] 107 (FR b, N1.2) Q)))) :
    WP (d + 1) 107 202 0 [.ref 67] [] 107 (FR b, M) Q := blk 4 ct202 h
set_option maxRecDepth 100000 in
theorem v202_4 {d : Nat} {b : Bool} {M : M2} {Q : QT}  (h : brK (0 ≤ (gI M 67 18)) (Q none (FR b, M)) (WP d 107 207 0 [.ref 67] [] 107 (FR b, M) (rI (fun v2 N1 => N1.1 = FR b ∧ (brK (v2 = 38) (WP d 107 203 0 [.ref 67, U] [] 107 (FR b, sI N1.2 67 17 ((gI N1.2 67 17) + 1)) (rV (fun N3 => N3.1 = FR b ∧ (WP d 107 209 0 [.ref 67, .int 38, .int 0] [] 107 (FR b, N3.2) (rV (fun N4 => N4.1 = FR b ∧ (WP (d + 1) 107 202 4 [.ref 67] [] 107 (FR b, N4.2) Q))))))) (Q none (FR b, N1.2))))))) :
    WP (d + 1) 107 202 4 [.ref 67] [] 107 (FR b, M) Q := blk 22 ct202 h
/- StyliteOverheardModel.compared()V -/
def ct203 : Nat → Bool := fun pc => Nat.beq pc 35
set_option maxRecDepth 100000 in
theorem v203_0 {d : Nat} {b : Bool} {M : M2} {Q : QT} {u1 : Value} (h : WP d 107 204 0 [.ref 67, U] [] 107 (FR b, M) (rV (fun N1 => N1.1 = FR b ∧ (WP d 107 207 0 [.ref 67] [] 107 (FR b, N1.2) (rI (fun v3 N2 => N2.1 = FR b ∧ (brK (0 ≤ (gI N2.2 67 18)) (Q none (FR b, N2.2)) (brK (v3 = 60) (WP (d + 1) 107 203 35 [.ref 67, .int v3] [] 107 (FR b, N2.2) Q) (brK (v3 = 61) (WP (d + 1) 107 203 35 [.ref 67, .int v3] [] 107 (FR b, N2.2) Q) (brK (v3 = 62) (WP (d + 1) 107 203 35 [.ref 67, .int v3] [] 107 (FR b, N2.2) Q) (Q none (FR b, N2.2)))))))))))) :
    WP (d + 1) 107 203 0 [.ref 67, u1] [] 107 (FR b, M) Q := blk 19 ct203 h
set_option maxRecDepth 100000 in
theorem v203_35 {d : Nat} {b : Bool} {M : M2} {Q : QT} {x1 : Int32} (h : WP d 107 204 0 [.ref 67, U] [] 107 (FR b, sI M 67 17 ((gI M 67 17) + 1)) (rV (fun N1 => N1.1 = FR b ∧ (WP d 107 209 0 [.ref 67, .int x1, .int 0] [] 107 (FR b, N1.2) (rV (fun N2 => N2.1 = FR b ∧ (Q none (FR b, N2.2)))))))) :
    WP (d + 1) 107 203 35 [.ref 67, .int x1] [] 107 (FR b, M) Q := blk 14 ct203 h
/- StyliteOverheardModel.sum()V -/
def ct204 : Nat → Bool := fun pc => Nat.beq pc 4 || Nat.beq pc 29
set_option maxRecDepth 100000 in
theorem v204_0 {d : Nat} {b : Bool} {M : M2} {Q : QT} {u1 : Value} (h : WP d 107 205 0 [.ref 67, U] [] 107 (FR b, M) (rV (fun N1 => N1.1 = FR b ∧ (WP (d + 1) 107 204 4 [.ref 67, u1] [] 107 (FR b, N1.2) Q)))) :
    WP (d + 1) 107 204 0 [.ref 67, u1] [] 107 (FR b, M) Q := blk 4 ct204 h
set_option maxRecDepth 100000 in
theorem v204_4 {d : Nat} {b : Bool} {M : M2} {Q : QT} {u1 : Value} (h : brK (0 ≤ (gI M 67 18)) (Q none (FR b, M)) (WP d 107 207 0 [.ref 67] [] 107 (FR b, M) (rI (fun v2 N1 => N1.1 = FR b ∧ (brK (v2 = 43) (WP (d + 1) 107 204 29 [.ref 67, u1] [] 107 (FR b, N1.2) Q) (WP d 107 207 0 [.ref 67] [] 107 (FR b, N1.2) (rI (fun v4 N3 => N3.1 = FR b ∧ (brK (v4 = 45) (WP (d + 1) 107 204 29 [.ref 67, u1] [] 107 (FR b, N3.2) Q) (Q none (FR b, N3.2))))))))))) :
    WP (d + 1) 107 204 4 [.ref 67, u1] [] 107 (FR b, M) Q := blk 13 ct204 h
set_option maxRecDepth 100000 in
theorem v204_29 {d : Nat} {b : Bool} {M : M2} {Q : QT} {u1 : Value} (h : WP d 107 207 0 [.ref 67] [] 107 (FR b, M) (rI (fun v2 N1 => N1.1 = FR b ∧ (WP d 107 205 0 [.ref 67, U] [] 107 (FR b, sI N1.2 67 17 ((gI N1.2 67 17) + 1)) (rV (fun N3 => N3.1 = FR b ∧ (WP d 107 209 0 [.ref 67, .int v2, .int 0] [] 107 (FR b, N3.2) (rV (fun N4 => N4.1 = FR b ∧ (WP (d + 1) 107 204 4 [.ref 67, .int v2] [] 107 (FR b, N4.2) Q)))))))))) :
    WP (d + 1) 107 204 29 [.ref 67, u1] [] 107 (FR b, M) Q := blk 18 ct204 h
/- StyliteOverheardModel.product()V -/
def ct205 : Nat → Bool := fun pc => Nat.beq pc 4 || Nat.beq pc 38
set_option maxRecDepth 100000 in
theorem v205_0 {d : Nat} {b : Bool} {M : M2} {Q : QT} {u1 : Value} (h : WP d 107 206 0 [.ref 67, U] [] 107 (FR b, M) (rV (fun N1 => N1.1 = FR b ∧ (WP (d + 1) 107 205 4 [.ref 67, u1] [] 107 (FR b, N1.2) Q)))) :
    WP (d + 1) 107 205 0 [.ref 67, u1] [] 107 (FR b, M) Q := blk 4 ct205 h
set_option maxRecDepth 100000 in
theorem v205_4 {d : Nat} {b : Bool} {M : M2} {Q : QT} {u1 : Value} (h : brK (0 ≤ (gI M 67 18)) (Q none (FR b, M)) (WP d 107 207 0 [.ref 67] [] 107 (FR b, M) (rI (fun v2 N1 => N1.1 = FR b ∧ (brK (v2 = 42) (WP (d + 1) 107 205 38 [.ref 67, u1] [] 107 (FR b, N1.2) Q) (WP d 107 207 0 [.ref 67] [] 107 (FR b, N1.2) (rI (fun v4 N3 => N3.1 = FR b ∧ (brK (v4 = 47) (WP (d + 1) 107 205 38 [.ref 67, u1] [] 107 (FR b, N3.2) Q) (WP d 107 207 0 [.ref 67] [] 107 (FR b, N3.2) (rI (fun v6 N5 => N5.1 = FR b ∧ (brK (v6 = 37) (WP (d + 1) 107 205 38 [.ref 67, u1] [] 107 (FR b, N5.2) Q) (Q none (FR b, N5.2))))))))))))))) :
    WP (d + 1) 107 205 4 [.ref 67, u1] [] 107 (FR b, M) Q := blk 17 ct205 h
set_option maxRecDepth 100000 in
theorem v205_38 {d : Nat} {b : Bool} {M : M2} {Q : QT} {u1 : Value} (h : WP d 107 207 0 [.ref 67] [] 107 (FR b, M) (rI (fun v2 N1 => N1.1 = FR b ∧ (WP d 107 206 0 [.ref 67, U] [] 107 (FR b, sI N1.2 67 17 ((gI N1.2 67 17) + 1)) (rV (fun N3 => N3.1 = FR b ∧ (WP d 107 209 0 [.ref 67, .int v2, .int 0] [] 107 (FR b, N3.2) (rV (fun N4 => N4.1 = FR b ∧ (WP (d + 1) 107 205 4 [.ref 67, .int v2] [] 107 (FR b, N4.2) Q)))))))))) :
    WP (d + 1) 107 205 38 [.ref 67, u1] [] 107 (FR b, M) Q := blk 18 ct205 h
/- StyliteOverheardModel.operand()V -/
def ct206 : Nat → Bool := fun pc => Nat.beq pc 46
set_option maxRecDepth 100000 in
theorem v206_0 {d : Nat} {b : Bool} {M : M2} {Q : QT} {u1 : Value} (h : WP d 107 207 0 [.ref 67] [] 107 (FR b, M) (rI (fun v2 N1 => N1.1 = FR b ∧ (WP d 107 208 0 [.int v2] [] 107 (FR b, N1.2) (rI (fun v4 N3 => N3.1 = FR b ∧ (brK (v4 < 0) (brK (v2 = 33) (WP (d + 1) 107 206 46 [.ref 67, .int v2] [] 107 (FR b, N3.2) Q) (brK (v2 = 45) (WP (d + 1) 107 206 46 [.ref 67, .int v2] [] 107 (FR b, N3.2) Q) (brK (v2 = 40) (WP d 107 210 0 [.ref 67] [] 107 (FR b, N3.2) (rI (fun v7 N6 => N6.1 = FR b ∧ (brK (v7 = 0) (Q none (FR b, N6.2)) (WP d 107 201 0 [.ref 67] [] 107 (FR b, N6.2) (rV (fun N8 => N8.1 = FR b ∧ (brK ((gI N8.2 67 18) < 0) (WP d 107 207 0 [.ref 67] [] 107 (FR b, N8.2) (rI (fun v10 N9 => N9.1 = FR b ∧ (brK (v10 = 41) (Q none (FR b, sI (sI N9.2 67 17 ((gI N9.2 67 17) + 1)) 67 19 ((gI N9.2 67 19) - 1))) (WP d 107 211 0 [.ref 67] [] 107 (FR b, N9.2) (rV (fun N11 => N11.1 = FR b ∧ (Q none (FR b, N11.2))))))))) (Q none (FR b, N8.2)))))))))) (WP d 107 212 0 [.ref 67, U, U] [] 107 (FR b, N3.2) (rV (fun N5 => N5.1 = FR b ∧ (Q none (FR b, N5.2)))))))) (WP d 107 208 0 [.int v2] [] 107 (FR b, N3.2) (rI (fun v13 N12 => N12.1 = FR b ∧ (WP d 107 209 0 [.ref 67, .int 2, .int v13] [] 107 (FR b, N12.2) (rV (fun N14 => N14.1 = FR b ∧ (Q none (FR b, sI N14.2 67 17 ((gI N14.2 67 17) + 1)))))))))))))))) :
    WP (d + 1) 107 206 0 [.ref 67, u1] [] 107 (FR b, M) Q := blk 42 ct206 h
set_option maxRecDepth 100000 in
theorem v206_46 {d : Nat} {b : Bool} {M : M2} {Q : QT} {x1 : Int32} (h : WP d 107 210 0 [.ref 67] [] 107 (FR b, M) (rI (fun v2 N1 => N1.1 = FR b ∧ (brK (v2 = 0) (Q none (FR b, N1.2)) (WP d 107 206 0 [.ref 67, U] [] 107 (FR b, N1.2) (rV (fun N3 => N3.1 = FR b ∧ (brK (x1 = 33) (WP d 107 209 0 [.ref 67, .int 3, .int 0] [] 107 (FR b, sI N3.2 67 19 ((gI N3.2 67 19) - 1)) (rV (fun N5 => N5.1 = FR b ∧ (Q none (FR b, N5.2))))) (WP d 107 209 0 [.ref 67, .int 4, .int 0] [] 107 (FR b, sI N3.2 67 19 ((gI N3.2 67 19) - 1)) (rV (fun N4 => N4.1 = FR b ∧ (Q none (FR b, N4.2))))))))))))) :
    WP (d + 1) 107 206 46 [.ref 67, .int x1] [] 107 (FR b, M) Q := blk 22 ct206 h
/- StyliteOverheardModel.look()I -/
def ct207 : Nat → Bool := fun _ => false
set_option maxRecDepth 100000 in
theorem v207_0 {d : Nat} {b : Bool} {M : M2} {Q : QT}  (h : brK ((gI M 67 16) ≤ (gI M 67 17)) (Q (some (.int (-1))) (FR b, M)) (iK (gI M 67 17) 120 (Q (some (.int (gI M 78 (ix (gI M 67 17))))) (FR b, M)))) :
    WP (d + 1) 107 207 0 [.ref 67] [] 107 (FR b, M) Q := blk 13 ct207 h
/- StyliteOverheardModel.nameOf(I)I -/
def ct208 : Nat → Bool := fun _ => false
set_option maxRecDepth 100000 in
theorem v208_0 {d : Nat} {b : Bool} {M : M2} {Q : QT} {x0 : Int32} (h : (x0 = 103 → Q (some (.int 1)) (FR b, M)) ∧ (¬ x0 = 103 → (x0 = 104 → Q (some (.int 3)) (FR b, M)) ∧ (¬ x0 = 104 → (x0 = 105 → Q (some (.int (-1))) (FR b, M)) ∧ (¬ x0 = 105 → (x0 = 106 → Q (some (.int (-1))) (FR b, M)) ∧ (¬ x0 = 106 → (x0 = 107 → Q (some (.int (-1))) (FR b, M)) ∧ (¬ x0 = 107 → (x0 = 108 → Q (some (.int 2)) (FR b, M)) ∧ (¬ x0 = 108 → (x0 = 109 → Q (some (.int 0)) (FR b, M)) ∧ (¬ x0 = 109 → (x0 = 110 → Q (some (.int (-1))) (FR b, M)) ∧ (¬ x0 = 110 → (x0 = 111 → Q (some (.int (-1))) (FR b, M)) ∧ (¬ x0 = 111 → (x0 = 112 → Q (some (.int (-1))) (FR b, M)) ∧ (¬ x0 = 112 → (x0 = 113 → Q (some (.int (-1))) (FR b, M)) ∧ (¬ x0 = 113 → (x0 = 114 → Q (some (.int 4)) (FR b, M)) ∧ (¬ x0 = 114 → (x0 = 115 → Q (some (.int (-1))) (FR b, M)) ∧ (¬ x0 = 115 → (x0 = 116 → Q (some (.int 5)) (FR b, M)) ∧ (¬ x0 = 116 → Q (some (.int (-1))) (FR b, M)))))))))))))))) :
    WP (d + 1) 107 208 0 [.int x0] [] 107 (FR b, M) Q := blk 5 ct208 h
/- StyliteOverheardModel.addStep(II)V -/
def ct209 : Nat → Bool := fun _ => false
set_option maxRecDepth 100000 in
theorem v209_0 {d : Nat} {b : Bool} {M : M2} {Q : QT} {x1 : Int32} {x2 : Int32} (h : iK (130 + (gI M 67 20)) 260 (iK (130 + (gI M 67 20)) 260 (Q none (FR b, sI (sI (sI M 79 (ix (130 + (gI M 67 20))) x1.toInt8.toInt32.toInt8.toInt32) 80 (ix (130 + (gI M 67 20))) x2) 67 20 ((gI M 67 20) + 1))))) :
    WP (d + 1) 107 209 0 [.ref 67, .int x1, .int x2] [] 107 (FR b, M) Q := blk 25 ct209 h
/- StyliteOverheardModel.opens()Z -/
def ct210 : Nat → Bool := fun _ => false
set_option maxRecDepth 100000 in
theorem v210_0 {d : Nat} {b : Bool} {M : M2} {Q : QT}  (h : brK ((gI M 67 19) = 6) (WP d 107 211 0 [.ref 67] [] 107 (FR b, M) (rV (fun N1 => N1.1 = FR b ∧ (Q (some (.int 0)) (FR b, N1.2))))) (Q (some (.int 1)) (FR b, sI (sI M 67 19 ((gI M 67 19) + 1)) 67 17 ((gI M 67 17) + 1)))) :
    WP (d + 1) 107 210 0 [.ref 67] [] 107 (FR b, M) Q := blk 19 ct210 h
/- StyliteOverheardModel.wrong()V -/
def ct211 : Nat → Bool := fun _ => false
set_option maxRecDepth 100000 in
theorem v211_0 {d : Nat} {b : Bool} {M : M2} {Q : QT}  (h : brK (0 ≤ (gI M 67 18)) (Q none (FR b, M)) (Q none (FR b, sI M 67 18 (gI M 67 17)))) :
    WP (d + 1) 107 211 0 [.ref 67] [] 107 (FR b, M) Q := blk 9 ct211 h
/- StyliteOverheardModel.figure()V -/
def ct212 : Nat → Bool := fun pc => Nat.beq pc 4 || Nat.beq pc 52 || Nat.beq pc 70
set_option maxRecDepth 100000 in
theorem v212_0 {d : Nat} {b : Bool} {M : M2} {Q : QT} {u1 : Value} {u2 : Value} (h : WP (d + 1) 107 212 4 [.ref 67, .int 0, .int 0] [] 107 (FR b, M) Q) :
    WP (d + 1) 107 212 0 [.ref 67, u1, u2] [] 107 (FR b, M) Q := blk 6 ct212 h
set_option maxRecDepth 100000 in
theorem v212_4 {d : Nat} {b : Bool} {M : M2} {Q : QT} {x1 : Int32} {x2 : Int32} (h : brK (4 ≤ x2) (WP (d + 1) 107 212 52 [.ref 67, .int x1, .int x2] [] 107 (FR b, M) Q) (WP d 107 207 0 [.ref 67] [] 107 (FR b, M) (rI (fun v2 N1 => N1.1 = FR b ∧ (WP d 107 180 0 [.int v2, .int 48, .int 57] [] 107 (FR b, N1.2) (rI (fun v4 N3 => N3.1 = FR b ∧ (brK (v4 = 0) (WP (d + 1) 107 212 52 [.ref 67, .int x1, .int x2] [] 107 (FR b, N3.2) Q) (WP d 107 207 0 [.ref 67] [] 107 (FR b, N3.2) (rI (fun v6 N5 => N5.1 = FR b ∧ (WP (d + 1) 107 212 4 [.ref 67, .int (((10 * x1) + v6) - 48), .int (x2 + 1)] [] 107 (FR b, sI N5.2 67 17 ((gI N5.2 67 17) + 1)) Q)))))))))))) :
    WP (d + 1) 107 212 4 [.ref 67, .int x1, .int x2] [] 107 (FR b, M) Q := blk 28 ct212 h
set_option maxRecDepth 100000 in
theorem v212_52 {d : Nat} {b : Bool} {M : M2} {Q : QT} {x1 : Int32} {x2 : Int32} (h : brK (x2 = 0) (WP (d + 1) 107 212 70 [.ref 67, .int x1, .int x2] [] 107 (FR b, M) Q) (WP d 107 207 0 [.ref 67] [] 107 (FR b, M) (rI (fun v2 N1 => N1.1 = FR b ∧ (WP d 107 180 0 [.int v2, .int 48, .int 57] [] 107 (FR b, N1.2) (rI (fun v4 N3 => N3.1 = FR b ∧ (brK (v4 = 0) (WP d 107 209 0 [.ref 67, .int 1, .int x1] [] 107 (FR b, N3.2) (rV (fun N5 => N5.1 = FR b ∧ (Q none (FR b, N5.2))))) (WP (d + 1) 107 212 70 [.ref 67, .int x1, .int x2] [] 107 (FR b, N3.2) Q))))))))) :
    WP (d + 1) 107 212 52 [.ref 67, .int x1, .int x2] [] 107 (FR b, M) Q := blk 14 ct212 h
set_option maxRecDepth 100000 in
theorem v212_70 {d : Nat} {b : Bool} {M : M2} {Q : QT} {x1 : Int32} {u2 : Value} (h : WP d 107 211 0 [.ref 67] [] 107 (FR b, M) (rV (fun N1 => N1.1 = FR b ∧ (WP d 107 209 0 [.ref 67, .int 1, .int x1] [] 107 (FR b, N1.2) (rV (fun N2 => N2.1 = FR b ∧ (Q none (FR b, N2.2)))))))) :
    WP (d + 1) 107 212 70 [.ref 67, .int x1, u2] [] 107 (FR b, M) Q := blk 8 ct212 h
/- StyliteOverheardModel.thing(I)I -/
def ct213 : Nat → Bool := fun _ => false
set_option maxRecDepth 100000 in
theorem v213_0 {d : Nat} {b : Bool} {M : M2} {Q : QT} {x1 : Int32} (h : WP d 107 214 0 [.int x1] [] 107 (FR b, M) (rI (fun v2 N1 => N1.1 = FR b ∧ (brK (v2 = 0) (Q (some (.int (-1))) (FR b, N1.2)) (WP d 107 215 0 [.ref 67, .int (gI N1.2 68 0), .int (gI N1.2 68 1), .int (gI N1.2 68 2), .int (gI N1.2 68 3), .int x1] [] 107 (FR b, N1.2) (rI (fun v4 N3 => N3.1 = FR b ∧ (Q (some (.int v4)) (FR b, N3.2))))))))) :
    WP (d + 1) 107 213 0 [.ref 67, .int x1] [] 107 (FR b, M) Q := blk 25 ct213 h
/- StyliteOverheardModel.isRemark(I)Z -/
def ct214 : Nat → Bool := fun _ => false
set_option maxRecDepth 100000 in
theorem v214_0 {d : Nat} {b : Bool} {M : M2} {Q : QT} {x0 : Int32} (h : WP d 107 180 0 [.int x0, .int 0, .int 9] [] 107 (FR b, M) (rI (fun v2 N1 => N1.1 = FR b ∧ (iK v2 2 (Q (some (.int v2)) (FR b, N1.2)))))) :
    WP (d + 1) 107 214 0 [.int x0] [] 107 (FR b, M) Q := blk 6 ct214 h
/- StyliteOverheardModel.saysBy(IIIII)I -/
def ct215 : Nat → Bool := fun _ => false
set_option maxRecDepth 100000 in
theorem v215_0 {d : Nat} {b : Bool} {M : M2} {Q : QT} {x1 : Int32} {x2 : Int32} {x3 : Int32} {x4 : Int32} {x5 : Int32} (h : brK ((gI M 67 28) = 0) (Q (some (.int ((((x1 + (3 * x5)) + x2) + x3) &&& 15))) (FR b, M)) (WP d 107 216 0 [.ref 67, .int 0, U, U] [] 107 (FR b, sI (sI (sI (sI (sI (sI M 84 0 x1) 84 1 x2) 84 2 x3) 84 3 x4) 84 4 x5) 84 5 (gI M 68 6)) (rI (fun v2 N1 => N1.1 = FR b ∧ (Q (some (.int (v2 &&& 15))) (FR b, N1.2)))))) :
    WP (d + 1) 107 215 0 [.ref 67, .int x1, .int x2, .int x3, .int x4, .int x5] [] 107 (FR b, M) Q := blk 43 ct215 h
/- StyliteOverheardModel.gives(I)I -/
def ct216 : Nat → Bool := fun pc => Nat.beq pc 7 || Nat.beq pc 47
set_option maxRecDepth 100000 in
theorem v216_0 {d : Nat} {b : Bool} {M : M2} {Q : QT} {x1 : Int32} {u2 : Value} {u3 : Value} (h : WP (d + 1) 107 216 7 [.ref 67, .int x1, .int 0, .int (61 * x1)] [] 107 (FR b, M) Q) :
    WP (d + 1) 107 216 0 [.ref 67, .int x1, u2, u3] [] 107 (FR b, M) Q := blk 8 ct216 h
set_option maxRecDepth 100000 in
theorem v216_7 {d : Nat} {b : Bool} {M : M2} {Q : QT} {x1 : Int32} {x2 : Int32} {x3 : Int32} (h : iK x1 2 (brK (((61 * x1) + (gI M 81 (ix x1))) ≤ x3) (Q (some (.int 0)) (FR b, M)) (iK x3 122 (brK ((gI M 82 (ix x3)) = x2) (WP (d + 1) 107 216 47 [.ref 67, .int x1, .int x2, .int x3] [] 107 (FR b, M) Q) (iK x3 122 (WP d 107 217 0 [.ref 67, .int x1, .int x2, .int (gI M 82 (ix x3)), U, U, U] [] 107 (FR b, M) (rI (fun v2 N1 => N1.1 = FR b ∧ (brK (v2 = 0) (iK x3 122 (WP (d + 1) 107 216 7 [.ref 67, .int x1, .int (gI N1.2 83 (ix x3)), .int (x3 + 1)] [] 107 (FR b, N1.2) Q)) (WP (d + 1) 107 216 47 [.ref 67, .int x1, .int x2, .int x3] [] 107 (FR b, N1.2) Q)))))))))) :
    WP (d + 1) 107 216 7 [.ref 67, .int x1, .int x2, .int x3] [] 107 (FR b, M) Q := blk 34 ct216 h
set_option maxRecDepth 100000 in
theorem v216_47 {d : Nat} {b : Bool} {M : M2} {Q : QT} {x1 : Int32} {u2 : Value} {x3 : Int32} (h : iK x3 122 (iK x3 122 (WP d 107 217 0 [.ref 67, .int x1, .int (gI M 82 (ix x3)), .int (gI M 83 (ix x3)), U, U, U] [] 107 (FR b, M) (rI (fun v2 N1 => N1.1 = FR b ∧ (Q (some (.int v2)) (FR b, N1.2))))))) :
    WP (d + 1) 107 216 47 [.ref 67, .int x1, u2, .int x3] [] 107 (FR b, M) Q := blk 13 ct216 h
