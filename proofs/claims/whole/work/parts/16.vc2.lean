/- StyliteOverheardModel.worked(III)I -/
def ct217 : Nat → Bool := fun pc => Nat.beq pc 12 || Nat.beq pc 45 || Nat.beq pc 152 || Nat.beq pc 178
set_option maxRecDepth 100000 in
theorem v217_0 {d : Nat} {b : Bool} {M : M2} {Q : QT} {x1 : Int32} {x2 : Int32} {x3 : Int32} {u4 : Value} {u5 : Value} {u6 : Value} (h : WP (d + 1) 107 217 12 [.ref 67, .int x1, .int x2, .int x3, .int 0, .int ((130 * x1) + x2), u6] [] 107 (FR b, M) Q) :
    WP (d + 1) 107 217 0 [.ref 67, .int x1, .int x2, .int x3, u4, u5, u6] [] 107 (FR b, M) Q := blk 10 ct217 h
set_option maxRecDepth 100000 in
theorem v217_12 {d : Nat} {b : Bool} {M : M2} {Q : QT} {x1 : Int32} {u2 : Value} {x3 : Int32} {x4 : Int32} {x5 : Int32} {u6 : Value} (h : brK (((130 * x1) + x3) ≤ x5) (Q (some (.int (gI M 85 0))) (FR b, M)) (iK x5 260 (brK ((gI M 79 (ix x5)) = 1) (WP (d + 1) 107 217 45 [.ref 67, .int x1, u2, .int x3, .int x4, .int x5, .int (gI M 79 (ix x5))] [] 107 (FR b, M) Q) (brK ((gI M 79 (ix x5)) = 2) (WP (d + 1) 107 217 45 [.ref 67, .int x1, u2, .int x3, .int x4, .int x5, .int (gI M 79 (ix x5))] [] 107 (FR b, M) Q) (brK ((gI M 79 (ix x5)) = 3) (iK (x4 - 1) 130 (brK ((gI M 85 (ix (x4 - 1))) = 0) (iK (x4 - 1) 130 (WP (d + 1) 107 217 12 [.ref 67, .int x1, u2, .int x3, .int x4, .int (x5 + 1), .int (gI M 79 (ix x5))] [] 107 (FR b, sI M 85 (ix (x4 - 1)) 1) Q)) (iK (x4 - 1) 130 (WP (d + 1) 107 217 12 [.ref 67, .int x1, u2, .int x3, .int x4, .int (x5 + 1), .int (gI M 79 (ix x5))] [] 107 (FR b, sI M 85 (ix (x4 - 1)) 0) Q)))) (brK ((gI M 79 (ix x5)) = 4) (iK (x4 - 1) 130 (iK (x4 - 1) 130 (WP (d + 1) 107 217 12 [.ref 67, .int x1, u2, .int x3, .int x4, .int (x5 + 1), .int (gI M 79 (ix x5))] [] 107 (FR b, sI M 85 (ix (x4 - 1)) (-(gI M 85 (ix (x4 - 1))))) Q))) (WP (d + 1) 107 217 152 [.ref 67, .int x1, u2, .int x3, .int (x4 + (-1)), .int x5, .int (gI M 79 (ix x5))] [] 107 (FR b, M) Q))))))) :
    WP (d + 1) 107 217 12 [.ref 67, .int x1, u2, .int x3, .int x4, .int x5, u6] [] 107 (FR b, M) Q := blk 42 ct217 h
set_option maxRecDepth 100000 in
theorem v217_45 {d : Nat} {b : Bool} {M : M2} {Q : QT} {x1 : Int32} {u2 : Value} {x3 : Int32} {x4 : Int32} {x5 : Int32} {x6 : Int32} (h : brK (x6 = 1) (iK x5 260 (iK x4 130 (WP (d + 1) 107 217 12 [.ref 67, .int x1, u2, .int x3, .int (x4 + 1), .int (x5 + 1), .int x6] [] 107 (FR b, sI M 85 (ix x4) (gI M 80 (ix x5))) Q))) (iK x5 260 (iK (gI M 80 (ix x5)) 6 (iK x4 130 (WP (d + 1) 107 217 12 [.ref 67, .int x1, u2, .int x3, .int (x4 + 1), .int (x5 + 1), .int x6] [] 107 (FR b, sI M 85 (ix x4) (gI M 84 (ix (gI M 80 (ix x5))))) Q))))) :
    WP (d + 1) 107 217 45 [.ref 67, .int x1, u2, .int x3, .int x4, .int x5, .int x6] [] 107 (FR b, M) Q := blk 20 ct217 h
set_option maxRecDepth 100000 in
theorem v217_152 {d : Nat} {b : Bool} {M : M2} {Q : QT} {x1 : Int32} {u2 : Value} {x3 : Int32} {x4 : Int32} {x5 : Int32} {x6 : Int32} (h : iK (x4 - 1) 130 (iK x4 130 (WP (d + 1) 107 217 178 [.ref 67, .int x1, u2, .int x3, .int x4, .int x5, .int x6] [.int (gI M 85 (ix x4)), .int (gI M 85 (ix (x4 - 1))), .int x6, .int (x4 - 1), .ref 85] 107 (FR b, M) Q))) :
    WP (d + 1) 107 217 152 [.ref 67, .int x1, u2, .int x3, .int x4, .int x5, .int x6] [] 107 (FR b, M) Q := blk 18 ct217 h
set_option maxRecDepth 100000 in
theorem v217_178 {d : Nat} {b : Bool} {M : M2} {Q : QT} {x1 : Int32} {u2 : Value} {x3 : Int32} {x4 : Int32} {x5 : Int32} {u6 : Value} {s0 : Int32} {s1 : Int32} {s2 : Int32} {s3 : Int32} (h : WP d 107 218 0 [.int s2, .int s1, .int s0] [] 107 (FR b, M) (rI (fun v2 N1 => N1.1 = FR b ∧ (iK s3 130 (WP (d + 1) 107 217 12 [.ref 67, .int x1, u2, .int x3, .int x4, .int (x5 + 1), u6] [] 107 (FR b, sI N1.2 85 (ix s3) v2) Q))))) :
    WP (d + 1) 107 217 178 [.ref 67, .int x1, u2, .int x3, .int x4, .int x5, u6] [.int s0, .int s1, .int s2, .int s3, .ref 85] 107 (FR b, M) Q := blk 6 ct217 h
/- StyliteOverheardModel.twoOf(III)I -/
def ct218 : Nat → Bool := fun _ => false
set_option maxRecDepth 100000 in
theorem v218_0 {d : Nat} {b : Bool} {M : M2} {Q : QT} {x0 : Int32} {x1 : Int32} {x2 : Int32} (h : (x0 = 37 → brK (x2 = 0) (Q (some (.int 0)) (FR b, M)) (brK (x2 = (-1)) (Q (some (.int 0)) (FR b, M)) (nzK x2 (Q (some (.int (x1 - x1 / x2 * x2))) (FR b, M))))) ∧ (¬ x0 = 37 → (x0 = 38 → brK (x1 = 0) (Q (some (.int 0)) (FR b, M)) (brK (x2 = 0) (Q (some (.int 0)) (FR b, M)) (Q (some (.int 1)) (FR b, M)))) ∧ (¬ x0 = 38 → (x0 = 39 → brK (x1 = 0) (brK (x2 = 0) (Q (some (.int 0)) (FR b, M)) (Q (some (.int 1)) (FR b, M))) (Q (some (.int 1)) (FR b, M))) ∧ (¬ x0 = 39 → (x0 = 40 → brK (x1 = 0) (brK (x2 = 0) (Q (some (.int 0)) (FR b, M)) (Q (some (.int 1)) (FR b, M))) (Q (some (.int 1)) (FR b, M))) ∧ (¬ x0 = 40 → (x0 = 41 → brK (x1 = 0) (brK (x2 = 0) (Q (some (.int 0)) (FR b, M)) (Q (some (.int 1)) (FR b, M))) (Q (some (.int 1)) (FR b, M))) ∧ (¬ x0 = 41 → (x0 = 42 → Q (some (.int (x1 * x2))) (FR b, M)) ∧ (¬ x0 = 42 → (x0 = 43 → Q (some (.int (x1 + x2))) (FR b, M)) ∧ (¬ x0 = 43 → (x0 = 44 → brK (x1 = 0) (brK (x2 = 0) (Q (some (.int 0)) (FR b, M)) (Q (some (.int 1)) (FR b, M))) (Q (some (.int 1)) (FR b, M))) ∧ (¬ x0 = 44 → (x0 = 45 → Q (some (.int (x1 - x2))) (FR b, M)) ∧ (¬ x0 = 45 → (x0 = 46 → brK (x1 = 0) (brK (x2 = 0) (Q (some (.int 0)) (FR b, M)) (Q (some (.int 1)) (FR b, M))) (Q (some (.int 1)) (FR b, M))) ∧ (¬ x0 = 46 → (x0 = 47 → brK (x2 = 0) (Q (some (.int 0)) (FR b, M)) (brK (x2 = (-1)) (Q (some (.int (-x1))) (FR b, M)) (nzK x2 (Q (some (.int (x1 / x2))) (FR b, M))))) ∧ (¬ x0 = 47 → (x0 = 48 → brK (x1 = 0) (brK (x2 = 0) (Q (some (.int 0)) (FR b, M)) (Q (some (.int 1)) (FR b, M))) (Q (some (.int 1)) (FR b, M))) ∧ (¬ x0 = 48 → (x0 = 49 → brK (x1 = 0) (brK (x2 = 0) (Q (some (.int 0)) (FR b, M)) (Q (some (.int 1)) (FR b, M))) (Q (some (.int 1)) (FR b, M))) ∧ (¬ x0 = 49 → (x0 = 50 → brK (x1 = 0) (brK (x2 = 0) (Q (some (.int 0)) (FR b, M)) (Q (some (.int 1)) (FR b, M))) (Q (some (.int 1)) (FR b, M))) ∧ (¬ x0 = 50 → (x0 = 51 → brK (x1 = 0) (brK (x2 = 0) (Q (some (.int 0)) (FR b, M)) (Q (some (.int 1)) (FR b, M))) (Q (some (.int 1)) (FR b, M))) ∧ (¬ x0 = 51 → (x0 = 52 → brK (x1 = 0) (brK (x2 = 0) (Q (some (.int 0)) (FR b, M)) (Q (some (.int 1)) (FR b, M))) (Q (some (.int 1)) (FR b, M))) ∧ (¬ x0 = 52 → (x0 = 53 → brK (x1 = 0) (brK (x2 = 0) (Q (some (.int 0)) (FR b, M)) (Q (some (.int 1)) (FR b, M))) (Q (some (.int 1)) (FR b, M))) ∧ (¬ x0 = 53 → (x0 = 54 → brK (x1 = 0) (brK (x2 = 0) (Q (some (.int 0)) (FR b, M)) (Q (some (.int 1)) (FR b, M))) (Q (some (.int 1)) (FR b, M))) ∧ (¬ x0 = 54 → (x0 = 55 → brK (x1 = 0) (brK (x2 = 0) (Q (some (.int 0)) (FR b, M)) (Q (some (.int 1)) (FR b, M))) (Q (some (.int 1)) (FR b, M))) ∧ (¬ x0 = 55 → (x0 = 56 → brK (x1 = 0) (brK (x2 = 0) (Q (some (.int 0)) (FR b, M)) (Q (some (.int 1)) (FR b, M))) (Q (some (.int 1)) (FR b, M))) ∧ (¬ x0 = 56 → (x0 = 57 → brK (x1 = 0) (brK (x2 = 0) (Q (some (.int 0)) (FR b, M)) (Q (some (.int 1)) (FR b, M))) (Q (some (.int 1)) (FR b, M))) ∧ (¬ x0 = 57 → (x0 = 58 → brK (x1 = 0) (brK (x2 = 0) (Q (some (.int 0)) (FR b, M)) (Q (some (.int 1)) (FR b, M))) (Q (some (.int 1)) (FR b, M))) ∧ (¬ x0 = 58 → (x0 = 59 → brK (x1 = 0) (brK (x2 = 0) (Q (some (.int 0)) (FR b, M)) (Q (some (.int 1)) (FR b, M))) (Q (some (.int 1)) (FR b, M))) ∧ (¬ x0 = 59 → (x0 = 60 → brK (x2 ≤ x1) (Q (some (.int 0)) (FR b, M)) (Q (some (.int 1)) (FR b, M))) ∧ (¬ x0 = 60 → (x0 = 61 → brK (x1 = x2) (Q (some (.int 1)) (FR b, M)) (Q (some (.int 0)) (FR b, M))) ∧ (¬ x0 = 61 → (x0 = 62 → brK (x1 ≤ x2) (Q (some (.int 0)) (FR b, M)) (Q (some (.int 1)) (FR b, M))) ∧ (¬ x0 = 62 → brK (x1 = 0) (brK (x2 = 0) (Q (some (.int 0)) (FR b, M)) (Q (some (.int 1)) (FR b, M))) (Q (some (.int 1)) (FR b, M))))))))))))))))))))))))))))) :
    WP (d + 1) 107 218 0 [.int x0, .int x1, .int x2] [] 107 (FR b, M) Q := blk 12 ct218 h
/- StyliteOverheardModel.hours(III)I -/
def ct219 : Nat → Bool := fun pc => Nat.beq pc 56
set_option maxRecDepth 100000 in
theorem v219_0 {d : Nat} {b : Bool} {M : M2} {Q : QT} {x1 : Int32} {x2 : Int32} {x3 : Int32} {u4 : Value} {u5 : Value} {u6 : Value} {u7 : Value} (h : WP d 107 183 0 [.int x1] [] 107 (FR b, M) (rI (fun v2 N1 => N1.1 = FR b ∧ (brK (v2 = 0) (Q (some (.int (-1))) (FR b, N1.2)) (WP d 107 220 0 [.int x2] [] 107 (FR b, N1.2) (rI (fun v4 N3 => N3.1 = FR b ∧ (brK (v4 = 0) (Q (some (.int (-1))) (FR b, N3.2)) (WP d 107 180 0 [.int x3, .int 0, .int 6] [] 107 (FR b, N3.2) (rI (fun v6 N5 => N5.1 = FR b ∧ (brK (v6 = 0) (Q (some (.int (-1))) (FR b, N5.2)) (WP d 107 221 0 [.ref 67, .int x1, .int 0] [] 107 (FR b, N5.2) (rI (fun v8 N7 => N7.1 = FR b ∧ (brK (0 ≤ v8) (WP d 107 222 0 [.ref 67] [] 107 (FR b, N7.2) (rV (fun N9 => N9.1 = FR b ∧ (WP (d + 1) 107 219 56 [.ref 67, .int x1, .int x2, .int x3, .int v8, .int 0, .int (-2), .int 0] [] 107 (FR b, N9.2) Q)))) (Q (some (.int v8)) (FR b, N7.2)))))))))))))))))) :
    WP (d + 1) 107 219 0 [.ref 67, .int x1, .int x2, .int x3, u4, u5, u6, u7] [] 107 (FR b, M) Q := blk 28 ct219 h
set_option maxRecDepth 100000 in
theorem v219_56 {d : Nat} {b : Bool} {M : M2} {Q : QT} {x1 : Int32} {x2 : Int32} {x3 : Int32} {u4 : Value} {x5 : Int32} {x6 : Int32} {x7 : Int32} (h : brK (x2 ≤ x7) ((x3 = 0 → Q (some (.int (gI M 67 33))) (FR b, M)) ∧ (¬ x3 = 0 → (x3 = 1 → Q (some (.int (gI M 67 29))) (FR b, M)) ∧ (¬ x3 = 1 → (x3 = 2 → Q (some (.int (gI M 67 30))) (FR b, M)) ∧ (¬ x3 = 2 → (x3 = 3 → Q (some (.int (gI M 67 31))) (FR b, M)) ∧ (¬ x3 = 3 → (x3 = 4 → Q (some (.int (gI M 67 32))) (FR b, M)) ∧ (¬ x3 = 4 → (x3 = 5 → Q (some (.int x5)) (FR b, M)) ∧ (¬ x3 = 5 → Q (some (.int x6)) (FR b, M)))))))) (WP d 107 223 0 [.ref 67, .int x1, .int x7] [] 107 (FR b, M) (rI (fun v2 N1 => N1.1 = FR b ∧ (WP d 107 225 0 [.ref 67, .int v2] [] 107 (FR b, N1.2) (rV (fun N3 => N3.1 = FR b ∧ (brK ((gI N3.2 67 34) = 0) (brK ((gI N3.2 67 34) = 0) (WP (d + 1) 107 219 56 [.ref 67, .int x1, .int x2, .int x3, u4, .int x5, .int x6, .int (x7 + 1)] [] 107 (FR b, N3.2) Q) (WP (d + 1) 107 219 56 [.ref 67, .int x1, .int x2, .int x3, kl u4, .int (x5 + 1), .int x6, .int (x7 + 1)] [] 107 (FR b, N3.2) Q)) (brK (x5 = 0) (brK ((gI N3.2 67 34) = 0) (WP (d + 1) 107 219 56 [.ref 67, .int x1, .int x2, .int x3, u4, .int x5, .int x7, .int (x7 + 1)] [] 107 (FR b, N3.2) Q) (WP (d + 1) 107 219 56 [.ref 67, .int x1, .int x2, .int x3, kl u4, .int (x5 + 1), .int x7, .int (x7 + 1)] [] 107 (FR b, N3.2) Q)) (brK ((gI N3.2 67 34) = 0) (WP (d + 1) 107 219 56 [.ref 67, .int x1, .int x2, .int x3, u4, .int x5, .int x6, .int (x7 + 1)] [] 107 (FR b, N3.2) Q) (WP (d + 1) 107 219 56 [.ref 67, .int x1, .int x2, .int x3, kl u4, .int (x5 + 1), .int x6, .int (x7 + 1)] [] 107 (FR b, N3.2) Q))))))))))) :
    WP (d + 1) 107 219 56 [.ref 67, .int x1, .int x2, .int x3, u4, .int x5, .int x6, .int x7] [] 107 (FR b, M) Q := blk 24 ct219 h
/- StyliteOverheardModel.areHours(I)Z -/
def ct220 : Nat → Bool := fun _ => false
set_option maxRecDepth 100000 in
theorem v220_0 {d : Nat} {b : Bool} {M : M2} {Q : QT} {x0 : Int32} (h : WP d 107 180 0 [.int x0, .int 0, .int 200] [] 107 (FR b, M) (rI (fun v2 N1 => N1.1 = FR b ∧ (iK v2 2 (Q (some (.int v2)) (FR b, N1.2)))))) :
    WP (d + 1) 107 220 0 [.int x0] [] 107 (FR b, M) Q := blk 6 ct220 h
/- StyliteOverheardModel.rowFault(II)I -/
def ct221 : Nat → Bool := fun _ => false
set_option maxRecDepth 100000 in
theorem v221_0 {d : Nat} {b : Bool} {M : M2} {Q : QT} {x1 : Int32} {x2 : Int32} (h : iK x1 6 (brK ((gI M 103 (ix x1)) = (-1)) (Q (some (.int (-11))) (FR b, M)) (iK x1 6 (brK ((gI M 103 (ix x1)) = ((-2) - x2)) (Q (some (.int 0)) (FR b, M)) (Q (some (.int (-12))) (FR b, M)))))) :
    WP (d + 1) 107 221 0 [.ref 67, .int x1, .int x2] [] 107 (FR b, M) Q := blk 18 ct221 h
/- StyliteOverheardModel.beginHours()V -/
def ct222 : Nat → Bool := fun _ => false
set_option maxRecDepth 100000 in
theorem v222_0 {d : Nat} {b : Bool} {M : M2} {Q : QT}  (h : Q none (FR b, sI (sI (sI (sI (sI (sI M 67 29 (gI M 68 0)) 67 30 (gI M 68 1)) 67 31 (gI M 68 2)) 67 32 (gI M 68 3)) 67 33 (-2)) 67 34 0)) :
    WP (d + 1) 107 222 0 [.ref 67] [] 107 (FR b, M) Q := blk 32 ct222 h
/- StyliteOverheardModel.remarkAt(II)I -/
def ct223 : Nat → Bool := fun _ => false
set_option maxRecDepth 100000 in
theorem v223_0 {d : Nat} {b : Bool} {M : M2} {Q : QT} {x1 : Int32} {x2 : Int32} (h : iK x1 6 (brK ((gI M 104 (ix x1)) ≤ x2) (Q (some (.int 0)) (FR b, M)) (WP d 107 224 0 [.ref 67, .int x1, .int x2] [] 107 (FR b, M) (rI (fun v2 N1 => N1.1 = FR b ∧ (WP d 107 214 0 [.int v2] [] 107 (FR b, N1.2) (rI (fun v4 N3 => N3.1 = FR b ∧ (brK (v4 = 0) (Q (some (.int 0)) (FR b, N3.2)) (WP d 107 224 0 [.ref 67, .int x1, .int x2] [] 107 (FR b, N3.2) (rI (fun v6 N5 => N5.1 = FR b ∧ (Q (some (.int v6)) (FR b, N5.2)))))))))))))) :
    WP (d + 1) 107 223 0 [.ref 67, .int x1, .int x2] [] 107 (FR b, M) Q := blk 19 ct223 h
/- StyliteOverheardModel.at(II)I -/
def ct224 : Nat → Bool := fun _ => false
set_option maxRecDepth 100000 in
theorem v224_0 {d : Nat} {b : Bool} {M : M2} {Q : QT} {x1 : Int32} {x2 : Int32} (h : iK ((60 * x1) + x2) 360 (Q (some (.int ((gL M 105 (ix ((60 * x1) + x2))).toInt32))) (FR b, M))) :
    WP (d + 1) 107 224 0 [.ref 67, .int x1, .int x2] [] 107 (FR b, M) Q := blk 11 ct224 h
/- StyliteOverheardModel.goHour(I)V -/
def ct225 : Nat → Bool := fun _ => false
set_option maxRecDepth 100000 in
theorem v225_0 {d : Nat} {b : Bool} {M : M2} {Q : QT} {x1 : Int32} (h : WP d 107 215 0 [.ref 67, .int (gI M 67 29), .int (gI M 67 30), .int (gI M 67 31), .int (gI M 67 32), .int x1] [] 107 (FR b, M) (rI (fun v2 N1 => N1.1 = FR b ∧ (WP d 107 226 0 [.ref 67, .int v2, .int (gI N1.2 67 31), .int (gI N1.2 67 30)] [] 107 (FR b, sI N1.2 67 33 v2) (rI (fun v4 N3 => N3.1 = FR b ∧ (iK v4 2 (brK (((gI N3.2 67 30) + (gI N3.2 68 4)) ≤ 9) (Q none (FR b, sI (sI (sI (sI (sI N3.2 67 34 v4) 67 29 ((((gI N3.2 67 29) + (gI N3.2 67 33)) + x1) - (((gI N3.2 67 29) + (gI N3.2 67 33)) + x1) / 16 * 16)) 67 31 (gI N3.2 67 33)) 67 30 ((gI N3.2 67 30) + (gI N3.2 68 4))) 67 32 (((gI N3.2 67 32) + 1) - ((gI N3.2 67 32) + 1) / 24 * 24))) (Q none (FR b, sI (sI (sI (sI (sI N3.2 67 34 v4) 67 29 ((((gI N3.2 67 29) + (gI N3.2 67 33)) + x1) - (((gI N3.2 67 29) + (gI N3.2 67 33)) + x1) / 16 * 16)) 67 31 (gI N3.2 67 33)) 67 30 9) 67 32 (((gI N3.2 67 32) + 1) - ((gI N3.2 67 32) + 1) / 24 * 24))))))))))) :
    WP (d + 1) 107 225 0 [.ref 67, .int x1] [] 107 (FR b, M) Q := blk 66 ct225 h
/- StyliteOverheardModel.isLumpBy(III)Z -/
def ct226 : Nat → Bool := fun _ => false
set_option maxRecDepth 100000 in
theorem v226_0 {d : Nat} {b : Bool} {M : M2} {Q : QT} {x1 : Int32} {x2 : Int32} {x3 : Int32} (h : brK (x1 = 15) (Q (some (.int 1)) (FR b, M)) (brK (x1 = x2) (brK (x3 < (gI M 68 6)) (Q (some (.int 0)) (FR b, M)) (Q (some (.int 1)) (FR b, M))) (Q (some (.int 0)) (FR b, M)))) :
    WP (d + 1) 107 226 0 [.ref 67, .int x1, .int x2, .int x3] [] 107 (FR b, M) Q := blk 16 ct226 h
/- StyliteOverheardModel.often(IIII)I -/
def ct227 : Nat → Bool := fun pc => Nat.beq pc 63
set_option maxRecDepth 100000 in
theorem v227_0 {d : Nat} {b : Bool} {M : M2} {Q : QT} {x1 : Int32} {x2 : Int32} {x3 : Int32} {x4 : Int32} {u5 : Value} {u6 : Value} {u7 : Value} {u8 : Value} (h : WP d 107 183 0 [.int x1] [] 107 (FR b, M) (rI (fun v2 N1 => N1.1 = FR b ∧ (brK (v2 = 0) (Q (some (.int (-1))) (FR b, N1.2)) (WP d 107 220 0 [.int x2] [] 107 (FR b, N1.2) (rI (fun v4 N3 => N3.1 = FR b ∧ (brK (v4 = 0) (Q (some (.int (-1))) (FR b, N3.2)) (WP d 107 193 0 [.int x3] [] 107 (FR b, N3.2) (rI (fun v6 N5 => N5.1 = FR b ∧ (brK (v6 = 0) (Q (some (.int (-1))) (FR b, N5.2)) (WP d 107 180 0 [.int x4, .int 0, .int 1] [] 107 (FR b, N5.2) (rI (fun v8 N7 => N7.1 = FR b ∧ (brK (v8 = 0) (Q (some (.int (-1))) (FR b, N7.2)) (WP d 107 221 0 [.ref 67, .int x1, .int 0] [] 107 (FR b, N7.2) (rI (fun v10 N9 => N9.1 = FR b ∧ (brK (0 ≤ v10) (WP d 107 222 0 [.ref 67] [] 107 (FR b, N9.2) (rV (fun N11 => N11.1 = FR b ∧ (WP (d + 1) 107 227 63 [.ref 67, .int x1, .int x2, .int x3, .int x4, .int v10, .int 0, .int (-2), .int 0] [] 107 (FR b, N11.2) Q)))) (Q (some (.int v10)) (FR b, N9.2)))))))))))))))))))))) :
    WP (d + 1) 107 227 0 [.ref 67, .int x1, .int x2, .int x3, .int x4, u5, u6, u7, u8] [] 107 (FR b, M) Q := blk 31 ct227 h
set_option maxRecDepth 100000 in
theorem v227_63 {d : Nat} {b : Bool} {M : M2} {Q : QT} {x1 : Int32} {x2 : Int32} {x3 : Int32} {x4 : Int32} {u5 : Value} {x6 : Int32} {x7 : Int32} {x8 : Int32} (h : brK (200 ≤ x8) (brK (x4 = 0) (Q (some (.int x6)) (FR b, M)) (Q (some (.int x7)) (FR b, M))) (WP d 107 223 0 [.ref 67, .int x1, .int x8] [] 107 (FR b, M) (rI (fun v2 N1 => N1.1 = FR b ∧ (WP d 107 225 0 [.ref 67, .int v2] [] 107 (FR b, N1.2) (rV (fun N3 => N3.1 = FR b ∧ (brK ((gI N3.2 67 33) = x3) (brK (0 ≤ x7) (brK (x2 ≤ x8) (WP (d + 1) 107 227 63 [.ref 67, .int x1, .int x2, .int x3, .int x4, u5, .int x6, .int x7, .int (x8 + 1)] [] 107 (FR b, N3.2) Q) (WP (d + 1) 107 227 63 [.ref 67, .int x1, .int x2, .int x3, .int x4, kl u5, .int (x6 + 1), .int x7, .int (x8 + 1)] [] 107 (FR b, N3.2) Q)) (brK (x2 ≤ x8) (WP (d + 1) 107 227 63 [.ref 67, .int x1, .int x2, .int x3, .int x4, u5, .int x6, .int x8, .int (x8 + 1)] [] 107 (FR b, N3.2) Q) (WP (d + 1) 107 227 63 [.ref 67, .int x1, .int x2, .int x3, .int x4, kl u5, .int (x6 + 1), .int x8, .int (x8 + 1)] [] 107 (FR b, N3.2) Q))) (WP (d + 1) 107 227 63 [.ref 67, .int x1, .int x2, .int x3, .int x4, u5, .int x6, .int x7, .int (x8 + 1)] [] 107 (FR b, N3.2) Q))))))))) :
    WP (d + 1) 107 227 63 [.ref 67, .int x1, .int x2, .int x3, .int x4, u5, .int x6, .int x7, .int x8] [] 107 (FR b, M) Q := blk 25 ct227 h
/- StyliteOverheardModel.round(I)I -/
def ct228 : Nat → Bool := fun pc => Nat.beq pc 17 || Nat.beq pc 36
set_option maxRecDepth 100000 in
theorem v228_0 {d : Nat} {b : Bool} {M : M2} {Q : QT} {x1 : Int32} {u2 : Value} {u3 : Value} (h : WP d 107 180 0 [.int x1, .int 0, .int 1] [] 107 (FR b, M) (rI (fun v2 N1 => N1.1 = FR b ∧ (brK (v2 = 0) (Q (some (.int (-1))) (FR b, N1.2)) (WP d 107 222 0 [.ref 67] [] 107 (FR b, N1.2) (rV (fun N3 => N3.1 = FR b ∧ (WP (d + 1) 107 228 17 [.ref 67, .int x1, .int 0, u3] [] 107 (FR b, N3.2) Q)))))))) :
    WP (d + 1) 107 228 0 [.ref 67, .int x1, u2, u3] [] 107 (FR b, M) Q := blk 11 ct228 h
set_option maxRecDepth 100000 in
theorem v228_17 {d : Nat} {b : Bool} {M : M2} {Q : QT} {x1 : Int32} {x2 : Int32} {u3 : Value} (h : brK (999 < x2) (Q (some (.int (-2))) (FR b, M)) (WP d 107 229 0 [.ref 67] [] 107 (FR b, M) (rI (fun v2 N1 => N1.1 = FR b ∧ (iK x2 1000 (WP (d + 1) 107 228 36 [.ref 67, .int x1, .int x2, .int 0] [] 107 (FR b, sI N1.2 86 (ix x2) v2) Q)))))) :
    WP (d + 1) 107 228 17 [.ref 67, .int x1, .int x2, u3] [] 107 (FR b, M) Q := blk 13 ct228 h
set_option maxRecDepth 100000 in
theorem v228_36 {d : Nat} {b : Bool} {M : M2} {Q : QT} {x1 : Int32} {x2 : Int32} {x3 : Int32} (h : brK (x2 ≤ x3) (WP d 107 225 0 [.ref 67, .int 0] [] 107 (FR b, M) (rV (fun N1 => N1.1 = FR b ∧ (WP (d + 1) 107 228 17 [.ref 67, .int x1, .int (x2 + 1), .int x3] [] 107 (FR b, N1.2) Q)))) (iK x3 1000 (iK x2 1000 (brK ((gI M 86 (ix x3)) = (gI M 86 (ix x2))) (brK (x1 = 0) (Q (some (.int x2)) (FR b, M)) (Q (some (.int x3)) (FR b, M))) (WP (d + 1) 107 228 36 [.ref 67, .int x1, .int x2, .int (x3 + 1)] [] 107 (FR b, M) Q))))) :
    WP (d + 1) 107 228 36 [.ref 67, .int x1, .int x2, .int x3] [] 107 (FR b, M) Q := blk 18 ct228 h
/- StyliteOverheardModel.stateNow()I -/
def ct229 : Nat → Bool := fun _ => false
set_option maxRecDepth 100000 in
theorem v229_0 {d : Nat} {b : Bool} {M : M2} {Q : QT}  (h : Q (some (.int (((((((gI M 67 29) * 10) + (gI M 67 30)) * 16) + (gI M 67 31)) * 24) + (gI M 67 32)))) (FR b, M)) :
    WP (d + 1) 107 229 0 [.ref 67] [] 107 (FR b, M) Q := blk 19 ct229 h
/- StyliteOverheardModel.make(II)I -/
def ct230 : Nat → Bool := fun pc => Nat.beq pc 49
set_option maxRecDepth 100000 in
theorem v230_0 {d : Nat} {b : Bool} {M : M2} {Q : QT} {x1 : Int32} {x2 : Int32} {u3 : Value} {u4 : Value} (h : brK (x1 < 0) (Q (some (.int (-1))) (FR b, M)) (WP d 107 193 0 [.int (x1 / 1024)] [] 107 (FR b, M) (rI (fun v2 N1 => N1.1 = FR b ∧ (brK (v2 = 0) (Q (some (.int (-1))) (FR b, N1.2)) (brK ((-1) ≤ x2) (WP d 107 231 0 [.ref 67, .int (x1 - x1 / 1024 * 1024)] [] 107 (FR b, N1.2) (rI (fun v4 N3 => N3.1 = FR b ∧ (WP (d + 1) 107 230 49 [.ref 67, .int x1, .int x2, .int v4, .int 1] [] 107 (FR b, sI (sI N3.2 67 38 0) 67 37 (x1 / 1024)) Q)))) (Q (some (.int (-1))) (FR b, N1.2)))))))) :
    WP (d + 1) 107 230 0 [.ref 67, .int x1, .int x2, u3, u4] [] 107 (FR b, M) Q := blk 28 ct230 h
set_option maxRecDepth 100000 in
theorem v230_49 {d : Nat} {b : Bool} {M : M2} {Q : QT} {u1 : Value} {x2 : Int32} {x3 : Int32} {x4 : Int32} (h : brK (12 < x4) (Q (some (.int (-2))) (FR b, M)) (WP d 107 232 0 [.ref 67, .int x4, .int x3, U, U, U, U, U, U] [] 107 (FR b, M) (rV (fun N1 => N1.1 = FR b ∧ (WP d 107 237 0 [.ref 67, .int 0, .int (gI N1.2 68 0), .int (gI N1.2 68 2)] [] 107 (FR b, N1.2) (rI (fun v3 N2 => N2.1 = FR b ∧ (brK (v3 < 0) (WP (d + 1) 107 230 49 [.ref 67, u1, .int x2, .int x3, .int (x4 + 1)] [] 107 (FR b, N2.2) Q) (brK (0 ≤ x2) (brK (x4 ≤ x2) (Q (some (.int (-2))) (FR b, N2.2)) (WP d 107 238 0 [.ref 67, .int x2, .int x3, U, U, U, U, U] [] 107 (FR b, N2.2) (rI (fun v5 N4 => N4.1 = FR b ∧ (Q (some (.int v5)) (FR b, N4.2)))))) (Q (some (.int x4)) (FR b, N2.2))))))))))) :
    WP (d + 1) 107 230 49 [.ref 67, u1, .int x2, .int x3, .int x4] [] 107 (FR b, M) Q := blk 31 ct230 h
/- StyliteOverheardModel.remarksOf(I)I -/
def ct231 : Nat → Bool := fun _ => false
set_option maxRecDepth 100000 in
theorem v231_0 {d : Nat} {b : Bool} {M : M2} {Q : QT} {x1 : Int32} (h : brK (x1 = 0) (Q (some (.int 1)) (FR b, M)) (Q (some (.int x1)) (FR b, M))) :
    WP (d + 1) 107 231 0 [.ref 67, .int x1] [] 107 (FR b, M) Q := blk 6 ct231 h
/- StyliteOverheardModel.findPlan(II)V -/
def ct232 : Nat → Bool := fun pc => Nat.beq pc 7 || Nat.beq pc 37 || Nat.beq pc 44 || Nat.beq pc 54 || Nat.beq pc 67
set_option maxRecDepth 100000 in
theorem v232_0 {d : Nat} {b : Bool} {M : M2} {Q : QT} {x1 : Int32} {x2 : Int32} {u3 : Value} {u4 : Value} {u5 : Value} {u6 : Value} {u7 : Value} {u8 : Value} (h : WP (d + 1) 107 232 7 [.ref 67, .int x1, .int x2, .int 0, u4, u5, u6, u7, u8] [] 107 (FR b, sI M 67 39 x1) Q) :
    WP (d + 1) 107 232 0 [.ref 67, .int x1, .int x2, u3, u4, u5, u6, u7, u8] [] 107 (FR b, M) Q := blk 7 ct232 h
set_option maxRecDepth 100000 in
theorem v232_7 {d : Nat} {b : Bool} {M : M2} {Q : QT} {x1 : Int32} {x2 : Int32} {x3 : Int32} {u4 : Value} {u5 : Value} {u6 : Value} {u7 : Value} {u8 : Value} (h : brK (256 ≤ x3) (WP (d + 1) 107 232 37 [.ref 67, .int x1, .int x2, .int (x1 - 1), u4, u5, u6, u7, u8] [] 107 (FR b, M) Q) (iK ((256 * x1) + x3) 3328 (WP (d + 1) 107 232 7 [.ref 67, .int x1, .int x2, .int (x3 + 1), u4, u5, u6, u7, u8] [] 107 (FR b, sI M 87 (ix ((256 * x1) + x3)) 0) Q))) :
    WP (d + 1) 107 232 7 [.ref 67, .int x1, .int x2, .int x3, u4, u5, u6, u7, u8] [] 107 (FR b, M) Q := blk 16 ct232 h
set_option maxRecDepth 100000 in
theorem v232_37 {d : Nat} {b : Bool} {M : M2} {Q : QT} {u1 : Value} {x2 : Int32} {x3 : Int32} {u4 : Value} {u5 : Value} {u6 : Value} {u7 : Value} {u8 : Value} (h : brK (x3 < 0) (Q none (FR b, M)) (WP (d + 1) 107 232 44 [.ref 67, u1, .int x2, .int x3, .int 0, u5, u6, u7, u8] [] 107 (FR b, M) Q)) :
    WP (d + 1) 107 232 37 [.ref 67, u1, .int x2, .int x3, u4, u5, u6, u7, u8] [] 107 (FR b, M) Q := blk 6 ct232 h
set_option maxRecDepth 100000 in
theorem v232_44 {d : Nat} {b : Bool} {M : M2} {Q : QT} {u1 : Value} {x2 : Int32} {x3 : Int32} {x4 : Int32} {u5 : Value} {u6 : Value} {u7 : Value} {u8 : Value} (h : brK (16 ≤ x4) (WP (d + 1) 107 232 37 [.ref 67, u1, .int x2, .int (x3 + (-1)), .int x4, u5, u6, u7, u8] [] 107 (FR b, M) Q) (WP (d + 1) 107 232 54 [.ref 67, u1, .int x2, .int x3, .int x4, .int 0, u6, u7, u8] [] 107 (FR b, M) Q)) :
    WP (d + 1) 107 232 44 [.ref 67, u1, .int x2, .int x3, .int x4, u5, u6, u7, u8] [] 107 (FR b, M) Q := blk 7 ct232 h
set_option maxRecDepth 100000 in
theorem v232_54 {d : Nat} {b : Bool} {M : M2} {Q : QT} {u1 : Value} {x2 : Int32} {x3 : Int32} {x4 : Int32} {x5 : Int32} {u6 : Value} {u7 : Value} {u8 : Value} (h : brK (16 ≤ x5) (WP (d + 1) 107 232 44 [.ref 67, u1, .int x2, .int x3, .int (x4 + 1), .int x5, u6, u7, u8] [] 107 (FR b, M) Q) (WP (d + 1) 107 232 67 [.ref 67, u1, .int x2, .int x3, .int x4, .int x5, .int (-1), .int 0, u8] [] 107 (FR b, M) Q)) :
    WP (d + 1) 107 232 54 [.ref 67, u1, .int x2, .int x3, .int x4, .int x5, u6, u7, u8] [] 107 (FR b, M) Q := blk 9 ct232 h
set_option maxRecDepth 100000 in
theorem v232_67 {d : Nat} {b : Bool} {M : M2} {Q : QT} {u1 : Value} {x2 : Int32} {x3 : Int32} {x4 : Int32} {x5 : Int32} {x6 : Int32} {x7 : Int32} {u8 : Value} (h : brK (10 ≤ x7) (iK (((256 * x3) + (16 * x4)) + x5) 3328 (WP (d + 1) 107 232 54 [.ref 67, u1, .int x2, .int x3, .int x4, .int (x5 + 1), .int x6, .int x7, u8] [] 107 (FR b, sI M 87 (ix (((256 * x3) + (16 * x4)) + x5)) x6) Q)) (brK (((x2 >>> (x7 &&& 31)) &&& 1) = 0) (WP (d + 1) 107 232 67 [.ref 67, u1, .int x2, .int x3, .int x4, .int x5, .int x6, .int (x7 + 1), u8] [] 107 (FR b, M) Q) (WP d 107 233 0 [.ref 67, .int x3, .int x4, .int x5, .int x7, U, U, U] [] 107 (FR b, M) (rI (fun v2 N1 => N1.1 = FR b ∧ (brK (v2 ≤ x6) (WP (d + 1) 107 232 67 [.ref 67, u1, .int x2, .int x3, .int x4, .int x5, .int x6, .int (x7 + 1), .int v2] [] 107 (FR b, N1.2) Q) (WP (d + 1) 107 232 67 [.ref 67, u1, .int x2, .int x3, .int x4, .int x5, .int v2, .int (x7 + 1), .int v2] [] 107 (FR b, N1.2) Q))))))) :
    WP (d + 1) 107 232 67 [.ref 67, u1, .int x2, .int x3, .int x4, .int x5, .int x6, .int x7, u8] [] 107 (FR b, M) Q := blk 25 ct232 h
/- StyliteOverheardModel.hadBy(IIII)I -/
def ct233 : Nat → Bool := fun _ => false
set_option maxRecDepth 100000 in
theorem v233_0 {d : Nat} {b : Bool} {M : M2} {Q : QT} {x1 : Int32} {x2 : Int32} {x3 : Int32} {x4 : Int32} {u5 : Value} {u6 : Value} {u7 : Value} (h : WP d 107 234 0 [.ref 67, .int x1, U] [] 107 (FR b, M) (rI (fun v2 N1 => N1.1 = FR b ∧ (WP d 107 235 0 [.ref 67, .int x1] [] 107 (FR b, N1.2) (rI (fun v4 N3 => N3.1 = FR b ∧ (WP d 107 215 0 [.ref 67, .int x2, .int v2, .int x3, .int v4, .int x4] [] 107 (FR b, N3.2) (rI (fun v6 N5 => N5.1 = FR b ∧ (WP d 107 236 0 [.ref 67, .int x1, .int v6, .int x3] [] 107 (FR b, N5.2) (rI (fun v8 N7 => N7.1 = FR b ∧ (brK (0 ≤ v8) (WP d 107 237 0 [.ref 67, .int (x1 + 1), .int (((x2 + v6) + x4) - ((x2 + v6) + x4) / 16 * 16), .int v6] [] 107 (FR b, N7.2) (rI (fun v10 N9 => N9.1 = FR b ∧ (brK (0 ≤ v10) (Q (some (.int (v8 + v10))) (FR b, N9.2)) (Q (some (.int (-1))) (FR b, N9.2)))))) (brK (0 ≤ ((-1) : Int32)) (Q (some (.int (v8 + (-1)))) (FR b, N7.2)) (Q (some (.int (-1))) (FR b, N7.2)))))))))))))))) :
    WP (d + 1) 107 233 0 [.ref 67, .int x1, .int x2, .int x3, .int x4, u5, u6, u7] [] 107 (FR b, M) Q := blk 41 ct233 h
/- StyliteOverheardModel.hungerIn(I)I -/
def ct234 : Nat → Bool := fun _ => false
set_option maxRecDepth 100000 in
theorem v234_0 {d : Nat} {b : Bool} {M : M2} {Q : QT} {x1 : Int32} {u2 : Value} (h : brK (((gI M 68 1) + (x1 * (gI M 68 4))) ≤ 9) (Q (some (.int ((gI M 68 1) + (x1 * (gI M 68 4))))) (FR b, M)) (Q (some (.int 9)) (FR b, M))) :
    WP (d + 1) 107 234 0 [.ref 67, .int x1, u2] [] 107 (FR b, M) Q := blk 19 ct234 h
/- StyliteOverheardModel.hourIn(I)I -/
def ct235 : Nat → Bool := fun _ => false
set_option maxRecDepth 100000 in
theorem v235_0 {d : Nat} {b : Bool} {M : M2} {Q : QT} {x1 : Int32} (h : Q (some (.int (((gI M 68 3) + x1) - ((gI M 68 3) + x1) / 24 * 24))) (FR b, M)) :
    WP (d + 1) 107 235 0 [.ref 67, .int x1] [] 107 (FR b, M) Q := blk 10 ct235 h
/- StyliteOverheardModel.countsAt(III)I -/
def ct236 : Nat → Bool := fun _ => false
set_option maxRecDepth 100000 in
theorem v236_0 {d : Nat} {b : Bool} {M : M2} {Q : QT} {x1 : Int32} {x2 : Int32} {x3 : Int32} (h : brK ((gI M 67 38) = 0) (brK (((gI M 67 39) - 1) ≤ x1) (brK (x2 = (gI M 67 37)) (Q (some (.int 0)) (FR b, M)) (Q (some (.int (-1))) (FR b, M))) (Q (some (.int 0)) (FR b, M))) (brK ((gI M 67 38) = 1) (Q (some (.int (((gI M 67 37) >>> (x2 &&& 31)) &&& 1))) (FR b, M)) (WP d 107 234 0 [.ref 67, .int x1, U] [] 107 (FR b, M) (rI (fun v2 N1 => N1.1 = FR b ∧ (WP d 107 226 0 [.ref 67, .int x2, .int x3, .int v2] [] 107 (FR b, N1.2) (rI (fun v4 N3 => N3.1 = FR b ∧ (brK (v4 = 0) (Q (some (.int 1)) (FR b, N3.2)) (Q (some (.int 0)) (FR b, N3.2))))))))))) :
    WP (d + 1) 107 236 0 [.ref 67, .int x1, .int x2, .int x3] [] 107 (FR b, M) Q := blk 19 ct236 h
/- StyliteOverheardModel.leftAt(III)I -/
def ct237 : Nat → Bool := fun _ => false
set_option maxRecDepth 100000 in
theorem v237_0 {d : Nat} {b : Bool} {M : M2} {Q : QT} {x1 : Int32} {x2 : Int32} {x3 : Int32} (h : iK (((256 * x1) + (16 * x2)) + x3) 3328 (Q (some (.int (gI M 87 (ix (((256 * x1) + (16 * x2)) + x3))))) (FR b, M))) :
    WP (d + 1) 107 237 0 [.ref 67, .int x1, .int x2, .int x3] [] 107 (FR b, M) Q := blk 14 ct237 h
/- StyliteOverheardModel.plannedAt(II)I -/
def ct238 : Nat → Bool := fun pc => Nat.beq pc 18 || Nat.beq pc 27
set_option maxRecDepth 100000 in
theorem v238_0 {d : Nat} {b : Bool} {M : M2} {Q : QT} {x1 : Int32} {x2 : Int32} {u3 : Value} {u4 : Value} {u5 : Value} {u6 : Value} {u7 : Value} (h : WP (d + 1) 107 238 18 [.ref 67, .int x1, .int x2, .int (gI M 68 0), .int (gI M 68 2), .int 0, u6, u7] [] 107 (FR b, M) Q) :
    WP (d + 1) 107 238 0 [.ref 67, .int x1, .int x2, u3, u4, u5, u6, u7] [] 107 (FR b, M) Q := blk 14 ct238 h
set_option maxRecDepth 100000 in
theorem v238_18 {d : Nat} {b : Bool} {M : M2} {Q : QT} {x1 : Int32} {x2 : Int32} {x3 : Int32} {x4 : Int32} {x5 : Int32} {u6 : Value} {u7 : Value} (h : brK (x1 < x5) (Q (some (.int (-2))) (FR b, M)) (WP (d + 1) 107 238 27 [.ref 67, .int x1, .int x2, .int x3, .int x4, .int x5, .int 0, u7] [] 107 (FR b, M) Q)) :
    WP (d + 1) 107 238 18 [.ref 67, .int x1, .int x2, .int x3, .int x4, .int x5, u6, u7] [] 107 (FR b, M) Q := blk 7 ct238 h
set_option maxRecDepth 100000 in
theorem v238_27 {d : Nat} {b : Bool} {M : M2} {Q : QT} {x1 : Int32} {x2 : Int32} {x3 : Int32} {x4 : Int32} {x5 : Int32} {x6 : Int32} {u7 : Value} (h : brK (((x2 >>> (x6 &&& 31)) &&& 1) = 0) (WP (d + 1) 107 238 27 [.ref 67, .int x1, .int x2, .int x3, .int x4, .int x5, .int (x6 + 1), u7] [] 107 (FR b, M) Q) (WP d 107 233 0 [.ref 67, .int x5, .int x3, .int x4, .int x6, U, U, U] [] 107 (FR b, M) (rI (fun v2 N1 => N1.1 = FR b ∧ (WP d 107 237 0 [.ref 67, .int x5, .int x3, .int x4] [] 107 (FR b, N1.2) (rI (fun v4 N3 => N3.1 = FR b ∧ (brK (v2 = v4) (brK (x5 = x1) (Q (some (.int x6)) (FR b, N3.2)) (WP d 107 234 0 [.ref 67, .int x5, U] [] 107 (FR b, N3.2) (rI (fun v6 N5 => N5.1 = FR b ∧ (WP d 107 235 0 [.ref 67, .int x5] [] 107 (FR b, N5.2) (rI (fun v8 N7 => N7.1 = FR b ∧ (WP d 107 215 0 [.ref 67, .int x3, .int v6, .int x4, .int v8, .int x6] [] 107 (FR b, N7.2) (rI (fun v10 N9 => N9.1 = FR b ∧ (WP (d + 1) 107 238 18 [.ref 67, .int x1, .int x2, .int (((x3 + v10) + x6) - ((x3 + v10) + x6) / 16 * 16), .int v10, .int (x5 + 1), .int x6, .int v10] [] 107 (FR b, N9.2) Q))))))))))) (WP (d + 1) 107 238 27 [.ref 67, .int x1, .int x2, .int x3, .int x4, .int x5, .int (x6 + 1), u7] [] 107 (FR b, N3.2) Q))))))))) :
    WP (d + 1) 107 238 27 [.ref 67, .int x1, .int x2, .int x3, .int x4, .int x5, .int x6, u7] [] 107 (FR b, M) Q := blk 47 ct238 h
/- StyliteOverheardModel.most(III)I -/
def ct239 : Nat → Bool := fun _ => false
set_option maxRecDepth 100000 in
theorem v239_0 {d : Nat} {b : Bool} {M : M2} {Q : QT} {x1 : Int32} {x2 : Int32} {x3 : Int32} {u4 : Value} (h : WP d 107 180 0 [.int x1, .int 0, .int 65535] [] 107 (FR b, M) (rI (fun v2 N1 => N1.1 = FR b ∧ (brK (v2 = 0) (Q (some (.int (-1))) (FR b, N1.2)) (WP d 107 240 0 [.int x2] [] 107 (FR b, N1.2) (rI (fun v4 N3 => N3.1 = FR b ∧ (brK (v4 = 0) (Q (some (.int (-1))) (FR b, N3.2)) (brK ((-1) ≤ x3) (WP d 107 231 0 [.ref 67, .int (x2 - x2 / 1024 * 1024)] [] 107 (FR b, sI (sI N3.2 67 38 1) 67 37 x1) (rI (fun v6 N5 => N5.1 = FR b ∧ (WP d 107 232 0 [.ref 67, .int (x2 / 1024), .int v6, U, U, U, U, U, U] [] 107 (FR b, N5.2) (rV (fun N7 => N7.1 = FR b ∧ (brK (0 ≤ x3) (brK ((x2 / 1024) ≤ x3) (Q (some (.int (-2))) (FR b, N7.2)) (WP d 107 238 0 [.ref 67, .int x3, .int v6, U, U, U, U, U] [] 107 (FR b, N7.2) (rI (fun v9 N8 => N8.1 = FR b ∧ (Q (some (.int v9)) (FR b, N8.2)))))) (WP d 107 237 0 [.ref 67, .int 0, .int (gI N7.2 68 0), .int (gI N7.2 68 2)] [] 107 (FR b, N7.2) (rI (fun v11 N10 => N10.1 = FR b ∧ (Q (some (.int v11)) (FR b, N10.2)))))))))))) (Q (some (.int (-1))) (FR b, N3.2))))))))))) :
    WP (d + 1) 107 239 0 [.ref 67, .int x1, .int x2, .int x3, u4] [] 107 (FR b, M) Q := blk 45 ct239 h
/- StyliteOverheardModel.arePlan(I)Z -/
def ct240 : Nat → Bool := fun _ => false
set_option maxRecDepth 100000 in
theorem v240_0 {d : Nat} {b : Bool} {M : M2} {Q : QT} {x0 : Int32} (h : brK (x0 < 0) (Q (some (.int 0)) (FR b, M)) (WP d 107 180 0 [.int (x0 / 1024), .int 1, .int 12] [] 107 (FR b, M) (rI (fun v2 N1 => N1.1 = FR b ∧ (brK (v2 = 0) (Q (some (.int 0)) (FR b, N1.2)) (Q (some (.int 1)) (FR b, N1.2))))))) :
    WP (d + 1) 107 240 0 [.int x0] [] 107 (FR b, M) Q := blk 13 ct240 h
/- StyliteOverheardModel.quiet(II)I -/
def ct241 : Nat → Bool := fun _ => false
set_option maxRecDepth 100000 in
theorem v241_0 {d : Nat} {b : Bool} {M : M2} {Q : QT} {x1 : Int32} {x2 : Int32} {u3 : Value} (h : WP d 107 240 0 [.int x1] [] 107 (FR b, M) (rI (fun v2 N1 => N1.1 = FR b ∧ (brK (v2 = 0) (Q (some (.int (-1))) (FR b, N1.2)) (brK ((-1) ≤ x2) (WP d 107 231 0 [.ref 67, .int (x1 - x1 / 1024 * 1024)] [] 107 (FR b, sI N1.2 67 38 2) (rI (fun v4 N3 => N3.1 = FR b ∧ (WP d 107 232 0 [.ref 67, .int (x1 / 1024), .int v4, U, U, U, U, U, U] [] 107 (FR b, N3.2) (rV (fun N5 => N5.1 = FR b ∧ (brK (0 ≤ x2) (brK ((x1 / 1024) ≤ x2) (Q (some (.int (-2))) (FR b, N5.2)) (WP d 107 238 0 [.ref 67, .int x2, .int v4, U, U, U, U, U] [] 107 (FR b, N5.2) (rI (fun v7 N6 => N6.1 = FR b ∧ (Q (some (.int v7)) (FR b, N6.2)))))) (WP d 107 237 0 [.ref 67, .int 0, .int (gI N5.2 68 0), .int (gI N5.2 68 2)] [] 107 (FR b, N5.2) (rI (fun v9 N8 => N8.1 = FR b ∧ (Q (some (.int ((x1 / 1024) - v9))) (FR b, N8.2)))))))))))) (Q (some (.int (-1))) (FR b, N1.2))))))) :
    WP (d + 1) 107 241 0 [.ref 67, .int x1, .int x2, u3] [] 107 (FR b, M) Q := blk 41 ct241 h
/- StyliteOverheardModel.waysTo(I)J -/
def ct242 : Nat → Bool := fun _ => false
set_option maxRecDepth 100000 in
theorem v242_0 {d : Nat} {b : Bool} {M : M2} {Q : QT} {x1 : Int32} (h : WP d 107 183 0 [.int x1] [] 107 (FR b, M) (rI (fun v2 N1 => N1.1 = FR b ∧ (brK (v2 = 0) (Q (some (.long (-9223372036854775808))) (FR b, N1.2)) (WP d 107 221 0 [.ref 67, .int x1, .int 0] [] 107 (FR b, N1.2) (rI (fun v4 N3 => N3.1 = FR b ∧ (brK (0 ≤ v4) (WP d 107 243 0 [.ref 67, .int x1] [] 107 (FR b, N3.2) (rV (fun N5 => N5.1 = FR b ∧ (WP d 107 244 0 [.ref 67, U, U, U, U, U] [] 107 (FR b, N5.2) (rV (fun N6 => N6.1 = FR b ∧ (iK (gI N6.2 68 0) 208 (Q (some (.long (gL N6.2 89 (ix (gI N6.2 68 0))))) (FR b, N6.2))))))))) (Q (some (.long (-9223372036854775808))) (FR b, N3.2)))))))))) :
    WP (d + 1) 107 242 0 [.ref 67, .int x1] [] 107 (FR b, M) Q := blk 22 ct242 h
/- StyliteOverheardModel.layThings(I)V -/
def ct243 : Nat → Bool := fun pc => Nat.beq pc 5
set_option maxRecDepth 100000 in
theorem v243_0 {d : Nat} {b : Bool} {M : M2} {Q : QT} {x1 : Int32} (h : WP (d + 1) 107 243 5 [.ref 67, .int x1] [] 107 (FR b, sI M 67 41 0) Q) :
    WP (d + 1) 107 243 0 [.ref 67, .int x1] [] 107 (FR b, M) Q := blk 5 ct243 h
set_option maxRecDepth 100000 in
theorem v243_5 {d : Nat} {b : Bool} {M : M2} {Q : QT} {x1 : Int32} (h : brK (12 ≤ (gI M 67 41)) (Q none (FR b, M)) (iK x1 6 (brK ((gI M 104 (ix x1)) ≤ (gI M 67 41)) (Q none (FR b, M)) (WP d 107 224 0 [.ref 67, .int x1, .int (gI M 67 41)] [] 107 (FR b, M) (rI (fun v2 N1 => N1.1 = FR b ∧ (WP d 107 193 0 [.int v2] [] 107 (FR b, N1.2) (rI (fun v4 N3 => N3.1 = FR b ∧ (brK (v4 = 0) (Q none (FR b, N3.2)) (WP d 107 224 0 [.ref 67, .int x1, .int (gI N3.2 67 41)] [] 107 (FR b, N3.2) (rI (fun v6 N5 => N5.1 = FR b ∧ (iK (gI N3.2 67 41) 12 (WP (d + 1) 107 243 5 [.ref 67, .int x1] [] 107 (FR b, sI (sI N5.2 88 (ix (gI N3.2 67 41)) v6) 67 41 ((gI N5.2 67 41) + 1)) Q))))))))))))))) :
    WP (d + 1) 107 243 5 [.ref 67, .int x1] [] 107 (FR b, M) Q := blk 37 ct243 h
/- StyliteOverheardModel.findRecite()V -/
def ct244 : Nat → Bool := fun pc => Nat.beq pc 2 || Nat.beq pc 36 || Nat.beq pc 42 || Nat.beq pc 53
set_option maxRecDepth 100000 in
theorem v244_0 {d : Nat} {b : Bool} {M : M2} {Q : QT} {u1 : Value} {u2 : Value} {u3 : Value} {u4 : Value} {u5 : Value} (h : WP (d + 1) 107 244 2 [.ref 67, .int 0, u2, u3, u4, u5] [] 107 (FR b, M) Q) :
    WP (d + 1) 107 244 0 [.ref 67, u1, u2, u3, u4, u5] [] 107 (FR b, M) Q := blk 4 ct244 h
set_option maxRecDepth 100000 in
theorem v244_2 {d : Nat} {b : Bool} {M : M2} {Q : QT} {x1 : Int32} {u2 : Value} {u3 : Value} {u4 : Value} {u5 : Value} (h : brK (16 ≤ x1) (WP (d + 1) 107 244 36 [.ref 67, .int ((gI M 67 41) - 1), u2, u3, u4, u5] [] 107 (FR b, M) Q) (iK ((16 * (gI M 67 41)) + x1) 208 (WP (d + 1) 107 244 2 [.ref 67, .int (x1 + 1), u2, u3, u4, u5] [] 107 (FR b, sL M 89 (ix ((16 * (gI M 67 41)) + x1)) 1) Q))) :
    WP (d + 1) 107 244 2 [.ref 67, .int x1, u2, u3, u4, u5] [] 107 (FR b, M) Q := blk 17 ct244 h
set_option maxRecDepth 100000 in
theorem v244_36 {d : Nat} {b : Bool} {M : M2} {Q : QT} {x1 : Int32} {u2 : Value} {u3 : Value} {u4 : Value} {u5 : Value} (h : brK (x1 < 0) (Q none (FR b, M)) (WP (d + 1) 107 244 42 [.ref 67, .int x1, .int 0, u3, u4, u5] [] 107 (FR b, M) Q)) :
    WP (d + 1) 107 244 36 [.ref 67, .int x1, u2, u3, u4, u5] [] 107 (FR b, M) Q := blk 6 ct244 h
set_option maxRecDepth 100000 in
theorem v244_42 {d : Nat} {b : Bool} {M : M2} {Q : QT} {x1 : Int32} {x2 : Int32} {u3 : Value} {u4 : Value} {u5 : Value} (h : brK (16 ≤ x2) (WP (d + 1) 107 244 36 [.ref 67, .int (x1 + (-1)), .int x2, u3, u4, u5] [] 107 (FR b, M) Q) (WP (d + 1) 107 244 53 [.ref 67, .int x1, .int x2, .long 0, U, .int 0] [] 107 (FR b, M) Q)) :
    WP (d + 1) 107 244 42 [.ref 67, .int x1, .int x2, u3, u4, u5] [] 107 (FR b, M) Q := blk 9 ct244 h
set_option maxRecDepth 100000 in
theorem v244_53 {d : Nat} {b : Bool} {M : M2} {Q : QT} {x1 : Int32} {x2 : Int32} {x3 : Int64} {u4 : Value} {x5 : Int32} (h : brK (10 ≤ x5) (iK ((16 * x1) + x2) 208 (WP (d + 1) 107 244 42 [.ref 67, .int x1, .int (x2 + 1), .long x3, u4, .int x5] [] 107 (FR b, sL M 89 (ix ((16 * x1) + x2)) x3) Q)) (WP d 107 245 0 [.ref 67, .int x1, .int x2, .int x5] [] 107 (FR b, M) (rL (fun v2 N1 => N1.1 = FR b ∧ (WP (d + 1) 107 244 53 [.ref 67, .int x1, .int x2, .long (x3 + v2), U, .int (x5 + 1)] [] 107 (FR b, N1.2) Q))))) :
    WP (d + 1) 107 244 53 [.ref 67, .int x1, .int x2, .long x3, u4, .int x5] [] 107 (FR b, M) Q := blk 16 ct244 h
/- StyliteOverheardModel.waysBy(III)J -/
def ct245 : Nat → Bool := fun _ => false
set_option maxRecDepth 100000 in
theorem v245_0 {d : Nat} {b : Bool} {M : M2} {Q : QT} {x1 : Int32} {x2 : Int32} {x3 : Int32} (h : WP d 107 246 0 [.ref 67, .int x1, .int x2, .int x3] [] 107 (FR b, M) (rI (fun v2 N1 => N1.1 = FR b ∧ (brK (v2 = 0) (Q (some (.long 0)) (FR b, N1.2)) (iK x1 12 (iK ((16 * (x1 + 1)) + (((x2 + (gI N1.2 88 (ix x1))) + x3) - ((x2 + (gI N1.2 88 (ix x1))) + x3) / 16 * 16)) 208 (Q (some (.long (gL N1.2 89 (ix ((16 * (x1 + 1)) + (((x2 + (gI N1.2 88 (ix x1))) + x3) - ((x2 + (gI N1.2 88 (ix x1))) + x3) / 16 * 16)))))) (FR b, N1.2)))))))) :
    WP (d + 1) 107 245 0 [.ref 67, .int x1, .int x2, .int x3] [] 107 (FR b, M) Q := blk 28 ct245 h
/- StyliteOverheardModel.recitesBy(III)Z -/
def ct246 : Nat → Bool := fun _ => false
set_option maxRecDepth 100000 in
theorem v246_0 {d : Nat} {b : Bool} {M : M2} {Q : QT} {x1 : Int32} {x2 : Int32} {x3 : Int32} (h : WP d 107 234 0 [.ref 67, .int x1, U] [] 107 (FR b, M) (rI (fun v2 N1 => N1.1 = FR b ∧ (WP d 107 247 0 [.ref 67, .int x1] [] 107 (FR b, N1.2) (rI (fun v4 N3 => N3.1 = FR b ∧ (WP d 107 235 0 [.ref 67, .int x1] [] 107 (FR b, N3.2) (rI (fun v6 N5 => N5.1 = FR b ∧ (WP d 107 215 0 [.ref 67, .int x2, .int v2, .int v4, .int v6, .int x3] [] 107 (FR b, N5.2) (rI (fun v8 N7 => N7.1 = FR b ∧ (iK x1 12 (brK (v8 = (gI N7.2 88 (ix x1))) (Q (some (.int 1)) (FR b, N7.2)) (Q (some (.int 0)) (FR b, N7.2)))))))))))))))) :
    WP (d + 1) 107 246 0 [.ref 67, .int x1, .int x2, .int x3] [] 107 (FR b, M) Q := blk 22 ct246 h
/- StyliteOverheardModel.lastAt(I)I -/
def ct247 : Nat → Bool := fun _ => false
set_option maxRecDepth 100000 in
theorem v247_0 {d : Nat} {b : Bool} {M : M2} {Q : QT} {x1 : Int32} (h : brK (x1 = 0) (Q (some (.int (gI M 68 2))) (FR b, M)) (iK (x1 - 1) 12 (Q (some (.int (gI M 88 (ix (x1 - 1))))) (FR b, M)))) :
    WP (d + 1) 107 247 0 [.ref 67, .int x1] [] 107 (FR b, M) Q := blk 10 ct247 h
/- StyliteOverheardModel.recite(II)I -/
def ct248 : Nat → Bool := fun pc => Nat.beq pc 58
set_option maxRecDepth 100000 in
theorem v248_0 {d : Nat} {b : Bool} {M : M2} {Q : QT} {x1 : Int32} {x2 : Int32} {u3 : Value} {u4 : Value} (h : WP d 107 183 0 [.int x1] [] 107 (FR b, M) (rI (fun v2 N1 => N1.1 = FR b ∧ (brK (v2 = 0) (Q (some (.int (-1))) (FR b, N1.2)) (brK ((-2) ≤ x2) (WP d 107 221 0 [.ref 67, .int x1, .int 0] [] 107 (FR b, N1.2) (rI (fun v4 N3 => N3.1 = FR b ∧ (brK (0 ≤ v4) (WP d 107 243 0 [.ref 67, .int x1] [] 107 (FR b, N3.2) (rV (fun N5 => N5.1 = FR b ∧ (WP d 107 244 0 [.ref 67, U, U, U, U, U] [] 107 (FR b, N5.2) (rV (fun N6 => N6.1 = FR b ∧ (iK (gI N6.2 68 0) 208 (brK ((lg_cmp (gL N6.2 89 (ix (gI N6.2 68 0))) 0) ≤ 0) (WP (d + 1) 107 248 58 [.ref 67, .int x1, .int x2, .int v4, u4] [.int 0] 107 (FR b, N6.2) Q) (WP (d + 1) 107 248 58 [.ref 67, .int x1, .int x2, .int v4, u4] [.int 1] 107 (FR b, N6.2) Q))))))))) (Q (some (.int v4)) (FR b, N3.2)))))) (Q (some (.int (-1))) (FR b, N1.2))))))) :
    WP (d + 1) 107 248 0 [.ref 67, .int x1, .int x2, u3, u4] [] 107 (FR b, M) Q := blk 32 ct248 h
set_option maxRecDepth 100000 in
theorem v248_58 {d : Nat} {b : Bool} {M : M2} {Q : QT} {u1 : Value} {x2 : Int32} {u3 : Value} {u4 : Value} {s0 : Int32} (h : brK (x2 = (-1)) (brK (s0 = 0) (Q (some (.int 0)) (FR b, M)) (Q (some (.int 1)) (FR b, M))) (brK (s0 = 0) (Q (some (.int (-2))) (FR b, M)) (brK (x2 = (-2)) (WP d 107 249 0 [.ref 67, U, U, U, U, U, U, U] [] 107 (FR b, M) (rI (fun v4 N3 => N3.1 = FR b ∧ (Q (some (.int v4)) (FR b, N3.2))))) (brK ((gI M 67 41) ≤ x2) (Q (some (.int (-2))) (FR b, M)) (WP d 107 251 0 [.ref 67, .int x2, U, U] [] 107 (FR b, M) (rI (fun v2 N1 => N1.1 = FR b ∧ (Q (some (.int v2)) (FR b, N1.2))))))))) :
    WP (d + 1) 107 248 58 [.ref 67, u1, .int x2, u3, u4] [.int s0] 107 (FR b, M) Q := blk 19 ct248 h
/- StyliteOverheardModel.sureMany()I -/
def ct249 : Nat → Bool := fun pc => Nat.beq pc 13 || Nat.beq pc 30 || Nat.beq pc 40
set_option maxRecDepth 100000 in
theorem v249_0 {d : Nat} {b : Bool} {M : M2} {Q : QT} {u1 : Value} {u2 : Value} {u3 : Value} {u4 : Value} {u5 : Value} {u6 : Value} {u7 : Value} (h : WP (d + 1) 107 249 13 [.ref 67, .int (1 <<< ((gI M 68 0) &&& 31)), .int 0, .int 0, u4, u5, u6, u7] [] 107 (FR b, M) Q) :
    WP (d + 1) 107 249 0 [.ref 67, u1, u2, u3, u4, u5, u6, u7] [] 107 (FR b, M) Q := blk 13 ct249 h
set_option maxRecDepth 100000 in
theorem v249_13 {d : Nat} {b : Bool} {M : M2} {Q : QT} {x1 : Int32} {x2 : Int32} {x3 : Int32} {u4 : Value} {u5 : Value} {u6 : Value} {u7 : Value} (h : brK ((gI M 67 41) ≤ x3) (Q (some (.int x2)) (FR b, M)) (WP (d + 1) 107 249 30 [.ref 67, .int x1, .int x2, .int x3, .int 0, .int 0, .int 0, u7] [] 107 (FR b, M) Q)) :
    WP (d + 1) 107 249 13 [.ref 67, .int x1, .int x2, .int x3, u4, u5, u6, u7] [] 107 (FR b, M) Q := blk 12 ct249 h
set_option maxRecDepth 100000 in
theorem v249_30 {d : Nat} {b : Bool} {M : M2} {Q : QT} {x1 : Int32} {x2 : Int32} {x3 : Int32} {x4 : Int32} {x5 : Int32} {x6 : Int32} {u7 : Value} (h : brK (16 ≤ x6) (WP d 107 250 0 [.int x5, U, U] [] 107 (FR b, M) (rI (fun v2 N1 => N1.1 = FR b ∧ (brK (v2 = 1) (WP (d + 1) 107 249 13 [.ref 67, .int x4, .int (x2 + 1), .int (x3 + 1), .int x4, .int x5, .int x6, u7] [] 107 (FR b, N1.2) Q) (WP (d + 1) 107 249 13 [.ref 67, .int x4, .int x2, .int (x3 + 1), .int x4, .int x5, .int x6, u7] [] 107 (FR b, N1.2) Q))))) (WP (d + 1) 107 249 40 [.ref 67, .int x1, .int x2, .int x3, .int x4, .int x5, .int x6, .int 0] [] 107 (FR b, M) Q)) :
    WP (d + 1) 107 249 30 [.ref 67, .int x1, .int x2, .int x3, .int x4, .int x5, .int x6, u7] [] 107 (FR b, M) Q := blk 14 ct249 h
set_option maxRecDepth 100000 in
theorem v249_40 {d : Nat} {b : Bool} {M : M2} {Q : QT} {x1 : Int32} {x2 : Int32} {x3 : Int32} {x4 : Int32} {x5 : Int32} {x6 : Int32} {x7 : Int32} (h : brK (10 ≤ x7) (WP (d + 1) 107 249 30 [.ref 67, .int x1, .int x2, .int x3, .int x4, .int x5, .int (x6 + 1), .int x7] [] 107 (FR b, M) Q) (brK (((x1 >>> (x6 &&& 31)) &&& 1) = 1) (WP d 107 245 0 [.ref 67, .int x3, .int x6, .int x7] [] 107 (FR b, M) (rL (fun v2 N1 => N1.1 = FR b ∧ (brK ((lg_cmp v2 0) = 0) (WP (d + 1) 107 249 40 [.ref 67, .int x1, .int x2, .int x3, .int x4, .int x5, .int x6, .int (x7 + 1)] [] 107 (FR b, N1.2) Q) (iK x3 12 (WP (d + 1) 107 249 40 [.ref 67, .int x1, .int x2, .int x3, .int (x4 ||| (1 <<< ((((x6 + (gI N1.2 88 (ix x3))) + x7) - ((x6 + (gI N1.2 88 (ix x3))) + x7) / 16 * 16) &&& 31))), .int (x5 ||| (1 <<< (x7 &&& 31))), .int x6, .int (x7 + 1)] [] 107 (FR b, N1.2) Q)))))) (WP (d + 1) 107 249 30 [.ref 67, .int x1, .int x2, .int x3, .int x4, .int x5, .int (x6 + 1), .int x7] [] 107 (FR b, M) Q))) :
    WP (d + 1) 107 249 40 [.ref 67, .int x1, .int x2, .int x3, .int x4, .int x5, .int x6, .int x7] [] 107 (FR b, M) Q := blk 43 ct249 h
/- StyliteOverheardModel.bitsOf(I)I -/
def ct250 : Nat → Bool := fun pc => Nat.beq pc 4
set_option maxRecDepth 100000 in
theorem v250_0 {d : Nat} {b : Bool} {M : M2} {Q : QT} {x0 : Int32} {u1 : Value} {u2 : Value} (h : WP (d + 1) 107 250 4 [.int x0, .int 0, .int x0] [] 107 (FR b, M) Q) :
    WP (d + 1) 107 250 0 [.int x0, u1, u2] [] 107 (FR b, M) Q := blk 6 ct250 h
set_option maxRecDepth 100000 in
theorem v250_4 {d : Nat} {b : Bool} {M : M2} {Q : QT} {u0 : Value} {x1 : Int32} {x2 : Int32} (h : brK (x2 = 0) (Q (some (.int x1)) (FR b, M)) (WP (d + 1) 107 250 4 [kl u0, .int (x1 + 1), .int (x2 &&& (x2 - 1))] [] 107 (FR b, M) Q)) :
    WP (d + 1) 107 250 4 [u0, .int x1, .int x2] [] 107 (FR b, M) Q := blk 12 ct250 h
/- StyliteOverheardModel.recitedAt(I)I -/
def ct251 : Nat → Bool := fun pc => Nat.beq pc 9
set_option maxRecDepth 100000 in
theorem v251_0 {d : Nat} {b : Bool} {M : M2} {Q : QT} {x1 : Int32} {u2 : Value} {u3 : Value} (h : WP (d + 1) 107 251 9 [.ref 67, .int x1, .int (gI M 68 0), .int 0] [] 107 (FR b, M) Q) :
    WP (d + 1) 107 251 0 [.ref 67, .int x1, u2, u3] [] 107 (FR b, M) Q := blk 9 ct251 h
set_option maxRecDepth 100000 in
theorem v251_9 {d : Nat} {b : Bool} {M : M2} {Q : QT} {x1 : Int32} {x2 : Int32} {x3 : Int32} (h : brK (x1 ≤ x3) (WP d 107 252 0 [.ref 67, .int x1, .int x2, U] [] 107 (FR b, M) (rI (fun v2 N1 => N1.1 = FR b ∧ (Q (some (.int v2)) (FR b, N1.2))))) (iK x3 12 (WP d 107 252 0 [.ref 67, .int x3, .int x2, U] [] 107 (FR b, M) (rI (fun v4 N3 => N3.1 = FR b ∧ (WP (d + 1) 107 251 9 [.ref 67, .int x1, .int (((x2 + (gI M 88 (ix x3))) + v4) - ((x2 + (gI M 88 (ix x3))) + v4) / 16 * 16), .int (x3 + 1)] [] 107 (FR b, N3.2) Q)))))) :
    WP (d + 1) 107 251 9 [.ref 67, .int x1, .int x2, .int x3] [] 107 (FR b, M) Q := blk 21 ct251 h
/- StyliteOverheardModel.firstBy(II)I -/
def ct252 : Nat → Bool := fun pc => Nat.beq pc 2
set_option maxRecDepth 100000 in
theorem v252_0 {d : Nat} {b : Bool} {M : M2} {Q : QT} {x1 : Int32} {x2 : Int32} {u3 : Value} (h : WP (d + 1) 107 252 2 [.ref 67, .int x1, .int x2, .int 0] [] 107 (FR b, M) Q) :
    WP (d + 1) 107 252 0 [.ref 67, .int x1, .int x2, u3] [] 107 (FR b, M) Q := blk 4 ct252 h
set_option maxRecDepth 100000 in
theorem v252_2 {d : Nat} {b : Bool} {M : M2} {Q : QT} {x1 : Int32} {x2 : Int32} {x3 : Int32} (h : WP d 107 245 0 [.ref 67, .int x1, .int x2, .int x3] [] 107 (FR b, M) (rL (fun v2 N1 => N1.1 = FR b ∧ (brK ((lg_cmp v2 0) = 0) (WP (d + 1) 107 252 2 [.ref 67, .int x1, .int x2, .int (x3 + 1)] [] 107 (FR b, N1.2) Q) (Q (some (.int x3)) (FR b, N1.2)))))) :
    WP (d + 1) 107 252 2 [.ref 67, .int x1, .int x2, .int x3] [] 107 (FR b, M) Q := blk 12 ct252 h
/- StyliteOverheardModel.tellsMost(II)I -/
def ct253 : Nat → Bool := fun pc => Nat.beq pc 35 || Nat.beq pc 52 || Nat.beq pc 70
set_option maxRecDepth 100000 in
theorem v253_0 {d : Nat} {b : Bool} {M : M2} {Q : QT} {x1 : Int32} {x2 : Int32} {u3 : Value} {u4 : Value} {u5 : Value} {u6 : Value} {u7 : Value} (h : WP d 107 180 0 [.int x1, .int 1, .int 12] [] 107 (FR b, M) (rI (fun v2 N1 => N1.1 = FR b ∧ (brK (v2 = 0) (Q (some (.int (-1))) (FR b, N1.2)) (WP d 107 180 0 [.int x2, .int 0, .int 1] [] 107 (FR b, N1.2) (rI (fun v4 N3 => N3.1 = FR b ∧ (brK (v4 = 0) (Q (some (.int (-1))) (FR b, N3.2)) (WP d 107 254 0 [.ref 67, .int x1, U] [] 107 (FR b, N3.2) (rV (fun N5 => N5.1 = FR b ∧ (WP (d + 1) 107 253 35 [.ref 67, .int x1, .int x2, .int (-2), .int 0, .int 1, u6, u7] [] 107 (FR b, N5.2) Q)))))))))))) :
    WP (d + 1) 107 253 0 [.ref 67, .int x1, .int x2, u3, u4, u5, u6, u7] [] 107 (FR b, M) Q := blk 21 ct253 h
set_option maxRecDepth 100000 in
theorem v253_35 {d : Nat} {b : Bool} {M : M2} {Q : QT} {x1 : Int32} {x2 : Int32} {x3 : Int32} {x4 : Int32} {x5 : Int32} {u6 : Value} {u7 : Value} (h : brK (10 ≤ x5) (brK (x2 = 0) (Q (some (.int x3)) (FR b, M)) (Q (some (.int x4)) (FR b, M))) (WP d 107 222 0 [.ref 67] [] 107 (FR b, M) (rV (fun N1 => N1.1 = FR b ∧ (WP (d + 1) 107 253 52 [.ref 67, .int x1, .int x2, .int x3, .int x4, .int x5, .int 0, .int 0] [] 107 (FR b, N1.2) Q))))) :
    WP (d + 1) 107 253 35 [.ref 67, .int x1, .int x2, .int x3, .int x4, .int x5, u6, u7] [] 107 (FR b, M) Q := blk 11 ct253 h
set_option maxRecDepth 100000 in
theorem v253_52 {d : Nat} {b : Bool} {M : M2} {Q : QT} {x1 : Int32} {x2 : Int32} {x3 : Int32} {x4 : Int32} {x5 : Int32} {x6 : Int32} {x7 : Int32} (h : brK (x1 ≤ x7) (brK (x3 < 0) (WP (d + 1) 107 253 35 [.ref 67, .int x1, .int x2, .int x5, .int x6, .int (x5 + 1), .int x6, .int x7] [] 107 (FR b, M) Q) (brK (x6 < x4) (WP (d + 1) 107 253 35 [.ref 67, .int x1, .int x2, .int x5, .int x6, .int (x5 + 1), .int x6, .int x7] [] 107 (FR b, M) Q) (WP (d + 1) 107 253 35 [.ref 67, .int x1, .int x2, .int x3, .int x4, .int (x5 + 1), .int x6, .int x7] [] 107 (FR b, M) Q))) (brK (x7 = 0) (WP (d + 1) 107 253 70 [.ref 67, .int x1, .int x2, .int x3, .int x4, .int x5, .int x6, .int x7] [.int x5, .ref 67] 107 (FR b, M) Q) (WP (d + 1) 107 253 70 [.ref 67, .int x1, .int x2, .int x3, .int x4, .int x5, .int x6, .int x7] [.int 0, .ref 67] 107 (FR b, M) Q))) :
    WP (d + 1) 107 253 52 [.ref 67, .int x1, .int x2, .int x3, .int x4, .int x5, .int x6, .int x7] [] 107 (FR b, M) Q := blk 16 ct253 h
set_option maxRecDepth 100000 in
theorem v253_70 {d : Nat} {b : Bool} {M : M2} {Q : QT} {x1 : Int32} {x2 : Int32} {x3 : Int32} {x4 : Int32} {x5 : Int32} {x6 : Int32} {x7 : Int32} {s0 : Int32} (h : WP d 107 225 0 [.ref 67, .int s0] [] 107 (FR b, M) (rV (fun N1 => N1.1 = FR b ∧ (iK x7 12 (brK ((gI N1.2 67 33) = (gI N1.2 90 (ix x7))) (WP (d + 1) 107 253 52 [.ref 67, .int x1, .int x2, .int x3, .int x4, .int x5, .int (x6 + 1), .int (x7 + 1)] [] 107 (FR b, N1.2) Q) (WP (d + 1) 107 253 52 [.ref 67, .int x1, .int x2, .int x3, .int x4, .int x5, .int x6, .int (x7 + 1)] [] 107 (FR b, N1.2) Q)))))) :
    WP (d + 1) 107 253 70 [.ref 67, .int x1, .int x2, .int x3, .int x4, .int x5, .int x6, .int x7] [.int s0, .ref 67] 107 (FR b, M) Q := blk 13 ct253 h
/- StyliteOverheardModel.findPlain(I)V -/
def ct254 : Nat → Bool := fun pc => Nat.beq pc 6
set_option maxRecDepth 100000 in
theorem v254_0 {d : Nat} {b : Bool} {M : M2} {Q : QT} {x1 : Int32} {u2 : Value} (h : WP d 107 222 0 [.ref 67] [] 107 (FR b, M) (rV (fun N1 => N1.1 = FR b ∧ (WP (d + 1) 107 254 6 [.ref 67, .int x1, .int 0] [] 107 (FR b, N1.2) Q)))) :
    WP (d + 1) 107 254 0 [.ref 67, .int x1, u2] [] 107 (FR b, M) Q := blk 6 ct254 h
set_option maxRecDepth 100000 in
theorem v254_6 {d : Nat} {b : Bool} {M : M2} {Q : QT} {x1 : Int32} {x2 : Int32} (h : brK (x1 ≤ x2) (Q none (FR b, M)) (WP d 107 225 0 [.ref 67, .int 0] [] 107 (FR b, M) (rV (fun N1 => N1.1 = FR b ∧ (iK x2 12 (WP (d + 1) 107 254 6 [.ref 67, .int x1, .int (x2 + 1)] [] 107 (FR b, sI N1.2 90 (ix x2) (gI N1.2 67 33)) Q)))))) :
    WP (d + 1) 107 254 6 [.ref 67, .int x1, .int x2] [] 107 (FR b, M) Q := blk 16 ct254 h
/- StyliteOverheardModel.sold(III)I -/
def ct255 : Nat → Bool := fun pc => Nat.beq pc 68
set_option maxRecDepth 100000 in
theorem v255_0 {d : Nat} {b : Bool} {M : M2} {Q : QT} {x1 : Int32} {x2 : Int32} {x3 : Int32} {u4 : Value} {u5 : Value} {u6 : Value} (h : WP d 107 183 0 [.int x1] [] 107 (FR b, M) (rI (fun v2 N1 => N1.1 = FR b ∧ (brK (v2 = 0) (Q (some (.int (-1))) (FR b, N1.2)) (WP d 107 220 0 [.int x2] [] 107 (FR b, N1.2) (rI (fun v4 N3 => N3.1 = FR b ∧ (brK (v4 = 0) (Q (some (.int (-1))) (FR b, N3.2)) (WP d 107 180 0 [.int x3, .int (-1), .int ((gI N3.2 67 2) - 1)] [] 107 (FR b, N3.2) (rI (fun v6 N5 => N5.1 = FR b ∧ (brK (v6 = 0) (Q (some (.int (-1))) (FR b, N5.2)) (WP d 107 221 0 [.ref 67, .int x1, .int 0] [] 107 (FR b, N5.2) (rI (fun v8 N7 => N7.1 = FR b ∧ (brK (0 ≤ v8) (WP d 107 256 0 [.ref 67, .int x1, .int x2, U, U] [] 107 (FR b, N7.2) (rV (fun N9 => N9.1 = FR b ∧ (brK (x3 < 0) (WP (d + 1) 107 255 68 [.ref 67, .int x1, .int x2, .int x3, .int v8, .int 0, .int 0] [] 107 (FR b, N9.2) Q) (WP d 107 257 0 [.ref 67, .int x3] [] 107 (FR b, N9.2) (rI (fun v11 N10 => N10.1 = FR b ∧ (Q (some (.int v11)) (FR b, N10.2))))))))) (Q (some (.int v8)) (FR b, N7.2)))))))))))))))))) :
    WP (d + 1) 107 255 0 [.ref 67, .int x1, .int x2, .int x3, u4, u5, u6] [] 107 (FR b, M) Q := blk 33 ct255 h
set_option maxRecDepth 100000 in
theorem v255_68 {d : Nat} {b : Bool} {M : M2} {Q : QT} {u1 : Value} {u2 : Value} {u3 : Value} {u4 : Value} {x5 : Int32} {x6 : Int32} (h : brK ((gI M 67 2) ≤ x6) (Q (some (.int x5)) (FR b, M)) (iK x6 6 (WP d 107 257 0 [.ref 67, .int x6] [] 107 (FR b, M) (rI (fun v2 N1 => N1.1 = FR b ∧ (WP (d + 1) 107 255 68 [.ref 67, u1, u2, u3, kl u4, .int (x5 + ((gI M 70 (ix x6)) * v2)), .int (x6 + 1)] [] 107 (FR b, N1.2) Q)))))) :
    WP (d + 1) 107 255 68 [.ref 67, u1, u2, u3, u4, .int x5, .int x6] [] 107 (FR b, M) Q := blk 19 ct255 h
/- StyliteOverheardModel.findHits(II)V -/
def ct256 : Nat → Bool := fun pc => Nat.beq pc 2 || Nat.beq pc 29 || Nat.beq pc 55
set_option maxRecDepth 100000 in
theorem v256_0 {d : Nat} {b : Bool} {M : M2} {Q : QT} {x1 : Int32} {x2 : Int32} {u3 : Value} {u4 : Value} (h : WP (d + 1) 107 256 2 [.ref 67, .int x1, .int x2, .int 0, u4] [] 107 (FR b, M) Q) :
    WP (d + 1) 107 256 0 [.ref 67, .int x1, .int x2, u3, u4] [] 107 (FR b, M) Q := blk 4 ct256 h
set_option maxRecDepth 100000 in
theorem v256_2 {d : Nat} {b : Bool} {M : M2} {Q : QT} {x1 : Int32} {x2 : Int32} {x3 : Int32} {u4 : Value} (h : brK ((gI M 67 2) ≤ x3) (WP d 107 222 0 [.ref 67] [] 107 (FR b, M) (rV (fun N1 => N1.1 = FR b ∧ (WP (d + 1) 107 256 29 [.ref 67, .int x1, .int x2, .int 0, u4] [] 107 (FR b, N1.2) Q)))) (iK x3 6 (WP (d + 1) 107 256 2 [.ref 67, .int x1, .int x2, .int (x3 + 1), u4] [] 107 (FR b, sI M 91 (ix x3) 0) Q))) :
    WP (d + 1) 107 256 2 [.ref 67, .int x1, .int x2, .int x3, u4] [] 107 (FR b, M) Q := blk 13 ct256 h
set_option maxRecDepth 100000 in
theorem v256_29 {d : Nat} {b : Bool} {M : M2} {Q : QT} {x1 : Int32} {x2 : Int32} {x3 : Int32} {u4 : Value} (h : brK (x2 ≤ x3) (Q none (FR b, M)) (brK (0 ≤ x1) (WP d 107 223 0 [.ref 67, .int x1, .int x3] [] 107 (FR b, M) (rI (fun v2 N1 => N1.1 = FR b ∧ (WP d 107 225 0 [.ref 67, .int v2] [] 107 (FR b, N1.2) (rV (fun N3 => N3.1 = FR b ∧ (WP (d + 1) 107 256 55 [.ref 67, .int x1, .int x2, .int x3, .int 0] [] 107 (FR b, N3.2) Q))))))) (WP d 107 225 0 [.ref 67, .int 0] [] 107 (FR b, M) (rV (fun N4 => N4.1 = FR b ∧ (WP (d + 1) 107 256 55 [.ref 67, .int x1, .int x2, .int x3, .int 0] [] 107 (FR b, N4.2) Q)))))) :
    WP (d + 1) 107 256 29 [.ref 67, .int x1, .int x2, .int x3, u4] [] 107 (FR b, M) Q := blk 15 ct256 h
set_option maxRecDepth 100000 in
theorem v256_55 {d : Nat} {b : Bool} {M : M2} {Q : QT} {x1 : Int32} {x2 : Int32} {x3 : Int32} {x4 : Int32} (h : brK ((gI M 67 2) ≤ x4) (WP (d + 1) 107 256 29 [.ref 67, .int x1, .int x2, .int (x3 + 1), .int x4] [] 107 (FR b, M) Q) (iK x4 6 (iK x4 6 (iK x4 6 (WP (d + 1) 107 256 55 [.ref 67, .int x1, .int x2, .int x3, .int (x4 + 1)] [] 107 (FR b, sI M 91 (ix x4) ((gI M 91 (ix x4)) + (((gI M 69 (ix x4)) >>> ((gI M 67 33) &&& 31)) &&& 1))) Q))))) :
    WP (d + 1) 107 256 55 [.ref 67, .int x1, .int x2, .int x3, .int x4] [] 107 (FR b, M) Q := blk 24 ct256 h
/- StyliteOverheardModel.soldBy(I)I -/
def ct257 : Nat → Bool := fun _ => false
set_option maxRecDepth 100000 in
theorem v257_0 {d : Nat} {b : Bool} {M : M2} {Q : QT} {x1 : Int32} (h : iK x1 6 (brK ((gI M 68 5) < (gI M 71 (ix x1))) (Q (some (.int 0)) (FR b, M)) (iK x1 6 (Q (some (.int (gI M 91 (ix x1)))) (FR b, M))))) :
    WP (d + 1) 107 257 0 [.ref 67, .int x1] [] 107 (FR b, M) Q := blk 16 ct257 h
/- StyliteOverheardModel.places(II)I -/
def ct258 : Nat → Bool := fun pc => Nat.beq pc 44
set_option maxRecDepth 100000 in
theorem v258_0 {d : Nat} {b : Bool} {M : M2} {Q : QT} {x1 : Int32} {x2 : Int32} {u3 : Value} {u4 : Value} {u5 : Value} {u6 : Value} {u7 : Value} (h : WP d 107 183 0 [.int x1] [] 107 (FR b, M) (rI (fun v2 N1 => N1.1 = FR b ∧ (brK (v2 = 0) (Q (some (.int (-1))) (FR b, N1.2)) (WP d 107 220 0 [.int x2] [] 107 (FR b, N1.2) (rI (fun v4 N3 => N3.1 = FR b ∧ (brK (v4 = 0) (Q (some (.int (-1))) (FR b, N3.2)) (WP d 107 221 0 [.ref 67, .int x1, .int 0] [] 107 (FR b, N3.2) (rI (fun v6 N5 => N5.1 = FR b ∧ (brK (0 ≤ v6) (WP d 107 256 0 [.ref 67, .int (-1), .int x2, U, U] [] 107 (FR b, N5.2) (rV (fun N7 => N7.1 = FR b ∧ (WP (d + 1) 107 258 44 [.ref 67, .int x1, .int x2, .int v6, .int 0, .int 0, .int 0, u7] [] 107 (FR b, N7.2) Q)))) (Q (some (.int v6)) (FR b, N5.2)))))))))))))) :
    WP (d + 1) 107 258 0 [.ref 67, .int x1, .int x2, u3, u4, u5, u6, u7] [] 107 (FR b, M) Q := blk 25 ct258 h
set_option maxRecDepth 100000 in
theorem v258_44 {d : Nat} {b : Bool} {M : M2} {Q : QT} {x1 : Int32} {u2 : Value} {u3 : Value} {x4 : Int32} {x5 : Int32} {x6 : Int32} {u7 : Value} (h : iK x1 6 (brK ((gI M 104 (ix x1)) ≤ x6) (Q (some (.int x4)) (FR b, M)) (WP d 107 224 0 [.ref 67, .int x1, .int x6] [] 107 (FR b, M) (rI (fun v2 N1 => N1.1 = FR b ∧ (WP d 107 190 0 [.ref 67, .int v2] [] 107 (FR b, N1.2) (rI (fun v4 N3 => N3.1 = FR b ∧ (brK (v4 = 0) (Q (some (.int x4)) (FR b, N3.2)) (brK (((x5 >>> (v2 &&& 31)) &&& 1) = 1) (Q (some (.int x4)) (FR b, N3.2)) (brK ((gI N3.2 68 5) < x6) (WP (d + 1) 107 258 44 [.ref 67, .int x1, u2, u3, .int x4, .int (x5 ||| (1 <<< (v2 &&& 31))), .int (x6 + 1), .int v2] [] 107 (FR b, N3.2) Q) (iK v2 6 (iK v2 6 (WP (d + 1) 107 258 44 [.ref 67, .int x1, u2, kl u3, .int (x4 + ((gI N3.2 70 (ix v2)) * (gI N3.2 91 (ix v2)))), .int (x5 ||| (1 <<< (v2 &&& 31))), .int (x6 + 1), .int v2] [] 107 (FR b, N3.2) Q)))))))))))))) :
    WP (d + 1) 107 258 44 [.ref 67, .int x1, u2, u3, .int x4, .int x5, .int x6, u7] [] 107 (FR b, M) Q := blk 50 ct258 h
/- StyliteOverheardModel.best(II)I -/
def ct259 : Nat → Bool := fun _ => false
set_option maxRecDepth 100000 in
theorem v259_0 {d : Nat} {b : Bool} {M : M2} {Q : QT} {x1 : Int32} {x2 : Int32} (h : WP d 107 220 0 [.int x1] [] 107 (FR b, M) (rI (fun v2 N1 => N1.1 = FR b ∧ (brK (v2 = 0) (Q (some (.int (-1))) (FR b, N1.2)) (brK ((-1) ≤ x2) (WP d 107 256 0 [.ref 67, .int (-1), .int x1, U, U] [] 107 (FR b, N1.2) (rV (fun N3 => N3.1 = FR b ∧ (WP d 107 260 0 [.ref 67, .int 0, .int 0, .int 0, U] [] 107 (FR b, sI N3.2 67 47 (-1)) (rV (fun N4 => N4.1 = FR b ∧ (brK (0 ≤ x2) (brK ((gI N4.2 67 2) ≤ x2) (Q (some (.int (-2))) (FR b, N4.2)) (iK x2 6 (Q (some (.int (gI N4.2 93 (ix x2)))) (FR b, N4.2)))) (Q (some (.int (gI N4.2 67 47))) (FR b, N4.2))))))))) (Q (some (.int (-1))) (FR b, N1.2))))))) :
    WP (d + 1) 107 259 0 [.ref 67, .int x1, .int x2] [] 107 (FR b, M) Q := blk 31 ct259 h
/- StyliteOverheardModel.goOrders(III)V -/
def ct260 : Nat → Bool := fun pc => Nat.beq pc 25 || Nat.beq pc 58
set_option maxRecDepth 100000 in
theorem v260_0 {d : Nat} {b : Bool} {M : M2} {Q : QT} {x1 : Int32} {x2 : Int32} {x3 : Int32} {u4 : Value} (h : brK (x1 = (gI M 67 2)) (brK ((gI M 67 47) < x3) (WP (d + 1) 107 260 25 [.ref 67, .int x1, .int x2, .int x3, .int 0] [] 107 (FR b, sI M 67 47 x3) Q) (Q none (FR b, M))) (WP (d + 1) 107 260 58 [.ref 67, .int x1, .int x2, .int x3, .int 0] [] 107 (FR b, M) Q)) :
    WP (d + 1) 107 260 0 [.ref 67, .int x1, .int x2, .int x3, u4] [] 107 (FR b, M) Q := blk 15 ct260 h
set_option maxRecDepth 100000 in
theorem v260_25 {d : Nat} {b : Bool} {M : M2} {Q : QT} {u1 : Value} {u2 : Value} {u3 : Value} {x4 : Int32} (h : brK ((gI M 67 2) ≤ x4) (Q none (FR b, M)) (iK x4 6 (iK x4 6 (WP (d + 1) 107 260 25 [.ref 67, u1, u2, kl u3, .int (x4 + 1)] [] 107 (FR b, sI M 93 (ix x4) (gI M 92 (ix x4))) Q)))) :
    WP (d + 1) 107 260 25 [.ref 67, u1, u2, u3, .int x4] [] 107 (FR b, M) Q := blk 16 ct260 h
set_option maxRecDepth 100000 in
theorem v260_58 {d : Nat} {b : Bool} {M : M2} {Q : QT} {x1 : Int32} {x2 : Int32} {x3 : Int32} {x4 : Int32} (h : brK ((gI M 67 2) ≤ x4) (Q none (FR b, M)) (brK (((x2 >>> (x4 &&& 31)) &&& 1) = 1) (WP (d + 1) 107 260 58 [.ref 67, .int x1, .int x2, .int x3, .int (x4 + 1)] [] 107 (FR b, M) Q) (iK x1 6 (brK ((gI M 68 5) < x1) (WP d 107 260 0 [.ref 67, .int (x1 + 1), .int (x2 ||| (1 <<< (x4 &&& 31))), .int x3, U] [] 107 (FR b, sI M 92 (ix x1) x4) (rV (fun N1 => N1.1 = FR b ∧ (WP (d + 1) 107 260 58 [.ref 67, .int x1, .int x2, .int x3, .int (x4 + 1)] [] 107 (FR b, N1.2) Q)))) (iK x4 6 (iK x4 6 (WP d 107 260 0 [.ref 67, .int (x1 + 1), .int (x2 ||| (1 <<< (x4 &&& 31))), .int (x3 + ((gI M 70 (ix x4)) * (gI M 91 (ix x4)))), U] [] 107 (FR b, sI M 92 (ix x1) x4) (rV (fun N2 => N2.1 = FR b ∧ (WP (d + 1) 107 260 58 [.ref 67, .int x1, .int x2, .int x3, .int (x4 + 1)] [] 107 (FR b, N2.2) Q)))))))))) :
    WP (d + 1) 107 260 58 [.ref 67, .int x1, .int x2, .int x3, .int x4] [] 107 (FR b, M) Q := blk 48 ct260 h
/- StyliteOverheardModel.when(III)I -/
def ct261 : Nat → Bool := fun pc => Nat.beq pc 36 || Nat.beq pc 102 || Nat.beq pc 117
set_option maxRecDepth 100000 in
theorem v261_0 {d : Nat} {b : Bool} {M : M2} {Q : QT} {x1 : Int32} {x2 : Int32} {x3 : Int32} {u4 : Value} {u5 : Value} {u6 : Value} {u7 : Value} {u8 : Value} (h : WP d 107 190 0 [.ref 67, .int x1] [] 107 (FR b, M) (rI (fun v2 N1 => N1.1 = FR b ∧ (brK (v2 = 0) (Q (some (.int (-1))) (FR b, N1.2)) (WP d 107 180 0 [.int x2, .int 1, .int 24] [] 107 (FR b, N1.2) (rI (fun v4 N3 => N3.1 = FR b ∧ (brK (v4 = 0) (Q (some (.int (-1))) (FR b, N3.2)) (WP d 107 180 0 [.int x3, .int 0, .int 1] [] 107 (FR b, N3.2) (rI (fun v6 N5 => N5.1 = FR b ∧ (brK (v6 = 0) (Q (some (.int (-1))) (FR b, N5.2)) (WP d 107 222 0 [.ref 67] [] 107 (FR b, N5.2) (rV (fun N7 => N7.1 = FR b ∧ (WP (d + 1) 107 261 36 [.ref 67, .int x1, .int x2, .int x3, .int 0, u5, u6, u7, u8] [] 107 (FR b, N7.2) Q)))))))))))))))) :
    WP (d + 1) 107 261 0 [.ref 67, .int x1, .int x2, .int x3, u4, u5, u6, u7, u8] [] 107 (FR b, M) Q := blk 20 ct261 h
set_option maxRecDepth 100000 in
theorem v261_36 {d : Nat} {b : Bool} {M : M2} {Q : QT} {x1 : Int32} {x2 : Int32} {x3 : Int32} {x4 : Int32} {u5 : Value} {u6 : Value} {u7 : Value} {u8 : Value} (h : brK (48 ≤ x4) (WP (d + 1) 107 261 102 [.ref 67, .int x1, .int x2, .int x3, .int 0, .int (-1), .int 0, u7, u8] [] 107 (FR b, M) Q) (WP d 107 225 0 [.ref 67, .int 0] [] 107 (FR b, M) (rV (fun N1 => N1.1 = FR b ∧ (iK x1 6 (brK ((gI N1.2 68 5) < (gI N1.2 71 (ix x1))) (iK x4 48 (WP (d + 1) 107 261 36 [.ref 67, .int x1, .int x2, .int x3, .int (x4 + 1), u5, u6, u7, u8] [] 107 (FR b, sI N1.2 94 (ix x4) 0) Q)) (iK x1 6 (iK x4 48 (WP (d + 1) 107 261 36 [.ref 67, .int x1, .int x2, .int x3, .int (x4 + 1), u5, u6, u7, u8] [] 107 (FR b, sI N1.2 94 (ix x4) (((gI N1.2 69 (ix x1)) >>> ((gI N1.2 67 33) &&& 31)) &&& 1)) Q))))))))) :
    WP (d + 1) 107 261 36 [.ref 67, .int x1, .int x2, .int x3, .int x4, u5, u6, u7, u8] [] 107 (FR b, M) Q := blk 33 ct261 h
set_option maxRecDepth 100000 in
theorem v261_102 {d : Nat} {b : Bool} {M : M2} {Q : QT} {u1 : Value} {x2 : Int32} {x3 : Int32} {x4 : Int32} {x5 : Int32} {x6 : Int32} {u7 : Value} {u8 : Value} (h : brK (48 < (x6 + x2)) (brK (x3 = 0) (Q (some (.int x4)) (FR b, M)) (Q (some (.int x5)) (FR b, M))) (WP (d + 1) 107 261 117 [.ref 67, u1, .int x2, .int x3, .int x4, .int x5, .int x6, .int 0, .int 0] [] 107 (FR b, M) Q)) :
    WP (d + 1) 107 261 102 [.ref 67, u1, .int x2, .int x3, .int x4, .int x5, .int x6, u7, u8] [] 107 (FR b, M) Q := blk 11 ct261 h
set_option maxRecDepth 100000 in
theorem v261_117 {d : Nat} {b : Bool} {M : M2} {Q : QT} {u1 : Value} {x2 : Int32} {x3 : Int32} {x4 : Int32} {x5 : Int32} {x6 : Int32} {x7 : Int32} {x8 : Int32} (h : brK (x2 ≤ x8) (brK (x5 < x7) (WP (d + 1) 107 261 102 [.ref 67, u1, .int x2, .int x3, .int x6, .int x7, .int (x6 + 1), .int x7, .int x8] [] 107 (FR b, M) Q) (WP (d + 1) 107 261 102 [.ref 67, u1, .int x2, .int x3, .int x4, .int x5, .int (x6 + 1), .int x7, .int x8] [] 107 (FR b, M) Q)) (iK (x6 + x8) 48 (WP (d + 1) 107 261 117 [.ref 67, u1, .int x2, .int x3, .int x4, .int x5, .int x6, .int (x7 + (gI M 94 (ix (x6 + x8)))), .int (x8 + 1)] [] 107 (FR b, M) Q))) :
    WP (d + 1) 107 261 117 [.ref 67, u1, .int x2, .int x3, .int x4, .int x5, .int x6, .int x7, .int x8] [] 107 (FR b, M) Q := blk 16 ct261 h
/- StyliteOverheardModel.verdict(II)I -/
def ct262 : Nat → Bool := fun _ => false
set_option maxRecDepth 100000 in
theorem v262_0 {d : Nat} {b : Bool} {M : M2} {Q : QT} {x1 : Int32} {x2 : Int32} {u3 : Value} (h : WP d 107 183 0 [.int x1] [] 107 (FR b, M) (rI (fun v2 N1 => N1.1 = FR b ∧ (brK (v2 = 0) (Q (some (.int (-1))) (FR b, N1.2)) (WP d 107 191 0 [.ref 67, .int x2] [] 107 (FR b, N1.2) (rI (fun v4 N3 => N3.1 = FR b ∧ (brK (v4 = 0) (Q (some (.int (-1))) (FR b, N3.2)) (WP d 107 221 0 [.ref 67, .int x1, .int 0] [] 107 (FR b, N3.2) (rI (fun v6 N5 => N5.1 = FR b ∧ (brK (0 ≤ v6) (WP d 107 263 0 [.ref 67, .int x1, .int x2, U, U, U] [] 107 (FR b, N5.2) (rI (fun v8 N7 => N7.1 = FR b ∧ (Q (some (.int v8)) (FR b, N7.2))))) (Q (some (.int v6)) (FR b, N5.2)))))))))))))) :
    WP (d + 1) 107 262 0 [.ref 67, .int x1, .int x2, u3] [] 107 (FR b, M) Q := blk 20 ct262 h
/- StyliteOverheardModel.verdictOf(II)I -/
def ct263 : Nat → Bool := fun pc => Nat.beq pc 8
set_option maxRecDepth 100000 in
theorem v263_0 {d : Nat} {b : Bool} {M : M2} {Q : QT} {x1 : Int32} {x2 : Int32} {u3 : Value} {u4 : Value} {u5 : Value} (h : WP (d + 1) 107 263 8 [.ref 67, .int x1, .int x2, .int 0, .int 0, .int 0] [] 107 (FR b, M) Q) :
    WP (d + 1) 107 263 0 [.ref 67, .int x1, .int x2, u3, u4, u5] [] 107 (FR b, M) Q := blk 8 ct263 h
set_option maxRecDepth 100000 in
theorem v263_8 {d : Nat} {b : Bool} {M : M2} {Q : QT} {x1 : Int32} {x2 : Int32} {x3 : Int32} {x4 : Int32} {x5 : Int32} (h : iK x1 6 (brK ((gI M 104 (ix x1)) ≤ x5) (WP d 107 264 0 [.int x3, .int x4] [] 107 (FR b, M) (rI (fun v2 N1 => N1.1 = FR b ∧ (Q (some (.int v2)) (FR b, N1.2))))) (WP d 107 224 0 [.ref 67, .int x1, .int x5] [] 107 (FR b, M) (rI (fun v4 N3 => N3.1 = FR b ∧ (WP d 107 193 0 [.int v4] [] 107 (FR b, N3.2) (rI (fun v6 N5 => N5.1 = FR b ∧ (brK (v6 = 0) (WP d 107 264 0 [.int x3, .int x4] [] 107 (FR b, N5.2) (rI (fun v8 N7 => N7.1 = FR b ∧ (Q (some (.int v8)) (FR b, N7.2))))) (iK x2 5 (WP d 107 224 0 [.ref 67, .int x1, .int x5] [] 107 (FR b, N5.2) (rI (fun v10 N9 => N9.1 = FR b ∧ (WP (d + 1) 107 263 8 [.ref 67, .int x1, .int x2, .int (x3 + (((gI N5.2 73 (ix x2)) >>> (v10 &&& 31)) &&& 1)), .int (x4 + 1), .int (x5 + 1)] [] 107 (FR b, N9.2) Q)))))))))))))) :
    WP (d + 1) 107 263 8 [.ref 67, .int x1, .int x2, .int x3, .int x4, .int x5] [] 107 (FR b, M) Q := blk 31 ct263 h
/- StyliteOverheardModel.verdictBy(II)I -/
def ct264 : Nat → Bool := fun _ => false
set_option maxRecDepth 100000 in
theorem v264_0 {d : Nat} {b : Bool} {M : M2} {Q : QT} {x0 : Int32} {x1 : Int32} (h : brK ((2 * x0) ≤ x1) (brK (x1 ≤ (2 * x0)) (Q (some (.int (-2))) (FR b, M)) (Q (some (.int 0)) (FR b, M))) (Q (some (.int 1)) (FR b, M))) :
    WP (d + 1) 107 264 0 [.int x0, .int x1] [] 107 (FR b, M) Q := blk 14 ct264 h
/- StyliteOverheardModel.clash(II)I -/
def ct265 : Nat → Bool := fun pc => Nat.beq pc 44
set_option maxRecDepth 100000 in
theorem v265_0 {d : Nat} {b : Bool} {M : M2} {Q : QT} {x1 : Int32} {x2 : Int32} {u3 : Value} {u4 : Value} {u5 : Value} {u6 : Value} (h : WP d 107 183 0 [.int x1] [] 107 (FR b, M) (rI (fun v2 N1 => N1.1 = FR b ∧ (brK (v2 = 0) (Q (some (.int (-1))) (FR b, N1.2)) (WP d 107 191 0 [.ref 67, .int x2] [] 107 (FR b, N1.2) (rI (fun v4 N3 => N3.1 = FR b ∧ (brK (v4 = 0) (Q (some (.int (-1))) (FR b, N3.2)) (WP d 107 221 0 [.ref 67, .int x1, .int 0] [] 107 (FR b, N3.2) (rI (fun v6 N5 => N5.1 = FR b ∧ (brK (0 ≤ v6) (WP d 107 263 0 [.ref 67, .int x1, .int x2, U, U, U] [] 107 (FR b, N5.2) (rI (fun v8 N7 => N7.1 = FR b ∧ (WP (d + 1) 107 265 44 [.ref 67, .int x1, .int x2, .int v6, .int v8, .int 0, .int 0] [] 107 (FR b, N7.2) Q)))) (Q (some (.int v6)) (FR b, N5.2)))))))))))))) :
    WP (d + 1) 107 265 0 [.ref 67, .int x1, .int x2, u3, u4, u5, u6] [] 107 (FR b, M) Q := blk 25 ct265 h
set_option maxRecDepth 100000 in
theorem v265_44 {d : Nat} {b : Bool} {M : M2} {Q : QT} {x1 : Int32} {u2 : Value} {u3 : Value} {x4 : Int32} {x5 : Int32} {x6 : Int32} (h : brK ((gI M 67 7) ≤ x6) (Q (some (.int x5)) (FR b, M)) (brK (x4 < 0) (Q (some (.int x5)) (FR b, M)) (WP d 107 263 0 [.ref 67, .int x1, .int x6, U, U, U] [] 107 (FR b, M) (rI (fun v2 N1 => N1.1 = FR b ∧ (brK (v2 = (1 - x4)) (WP (d + 1) 107 265 44 [.ref 67, .int x1, u2, u3, .int x4, .int (x5 ||| (1 <<< (x6 &&& 31))), .int (x6 + 1)] [] 107 (FR b, N1.2) Q) (WP (d + 1) 107 265 44 [.ref 67, .int x1, u2, u3, .int x4, .int x5, .int (x6 + 1)] [] 107 (FR b, N1.2) Q))))))) :
    WP (d + 1) 107 265 44 [.ref 67, .int x1, u2, u3, .int x4, .int x5, .int x6] [] 107 (FR b, M) Q := blk 24 ct265 h
/- StyliteOverheardModel.judge(II)I -/
def ct266 : Nat → Bool := fun pc => Nat.beq pc 38
set_option maxRecDepth 100000 in
theorem v266_0 {d : Nat} {b : Bool} {M : M2} {Q : QT} {x1 : Int32} {x2 : Int32} {u3 : Value} {u4 : Value} (h : WP d 107 183 0 [.int x1] [] 107 (FR b, M) (rI (fun v2 N1 => N1.1 = FR b ∧ (brK (v2 = 0) (Q (some (.int (-1))) (FR b, N1.2)) (WP d 107 191 0 [.ref 67, .int x2] [] 107 (FR b, N1.2) (rI (fun v4 N3 => N3.1 = FR b ∧ (brK (v4 = 0) (Q (some (.int (-1))) (FR b, N3.2)) (WP d 107 221 0 [.ref 67, .int x1, .int 0] [] 107 (FR b, N3.2) (rI (fun v6 N5 => N5.1 = FR b ∧ (brK (0 ≤ v6) (WP d 107 267 0 [.ref 67, .int x1, U, U] [] 107 (FR b, N5.2) (rV (fun N7 => N7.1 = FR b ∧ (WP (d + 1) 107 266 38 [.ref 67, .int x1, .int x2, .int v6, .int 0] [] 107 (FR b, N7.2) Q)))) (Q (some (.int v6)) (FR b, N5.2)))))))))))))) :
    WP (d + 1) 107 266 0 [.ref 67, .int x1, .int x2, u3, u4] [] 107 (FR b, M) Q := blk 21 ct266 h
set_option maxRecDepth 100000 in
theorem v266_38 {d : Nat} {b : Bool} {M : M2} {Q : QT} {u1 : Value} {x2 : Int32} {u3 : Value} {x4 : Int32} (h : brK ((gI M 67 52) ≤ x4) (Q (some (.int (-2))) (FR b, M)) (iK x2 5 (WP d 107 269 0 [.ref 67, .int (gI M 73 (ix x2)), .int x4, U, U] [] 107 (FR b, M) (rI (fun v2 N1 => N1.1 = FR b ∧ (brK (v2 = 0) (Q (some (.int x4)) (FR b, N1.2)) (WP (d + 1) 107 266 38 [.ref 67, u1, .int x2, kl u3, .int (x4 + 1)] [] 107 (FR b, N1.2) Q))))))) :
    WP (d + 1) 107 266 38 [.ref 67, u1, .int x2, u3, .int x4] [] 107 (FR b, M) Q := blk 16 ct266 h
/- StyliteOverheardModel.layVerdicts(I)V -/
def ct267 : Nat → Bool := fun pc => Nat.beq pc 11 || Nat.beq pc 107
set_option maxRecDepth 100000 in
theorem v267_0 {d : Nat} {b : Bool} {M : M2} {Q : QT} {x1 : Int32} {u2 : Value} {u3 : Value} (h : WP d 107 268 0 [.ref 67, U] [] 107 (FR b, sI M 67 52 0) (rV (fun N1 => N1.1 = FR b ∧ (WP (d + 1) 107 267 11 [.ref 67, .int x1, .int 0, u3] [] 107 (FR b, N1.2) Q)))) :
    WP (d + 1) 107 267 0 [.ref 67, .int x1, u2, u3] [] 107 (FR b, M) Q := blk 9 ct267 h
set_option maxRecDepth 100000 in
theorem v267_11 {d : Nat} {b : Bool} {M : M2} {Q : QT} {x1 : Int32} {x2 : Int32} {u3 : Value} (h : iK x1 6 (brK ((gI M 104 (ix x1)) ≤ x2) (Q none (FR b, M)) (brK (12 ≤ (gI M 67 52)) (Q none (FR b, M)) (WP d 107 224 0 [.ref 67, .int x1, .int x2] [] 107 (FR b, M) (rI (fun v2 N1 => N1.1 = FR b ∧ (WP d 107 180 0 [.int v2, .int 0, .int 17] [] 107 (FR b, N1.2) (rI (fun v4 N3 => N3.1 = FR b ∧ (brK (v4 = 0) (Q none (FR b, N3.2)) (brK (16 ≤ v2) (brK (v2 = 16) (WP (d + 1) 107 267 107 [.ref 67, .int x1, .int x2, .int v2] [.int 1, .int (gI N3.2 67 52), .ref 97] 107 (FR b, N3.2) Q) (WP (d + 1) 107 267 107 [.ref 67, .int x1, .int x2, .int v2] [.int 0, .int (gI N3.2 67 52), .ref 97] 107 (FR b, N3.2) Q)) (iK ((16 * (gI N3.2 67 52)) + v2) 208 (iK ((16 * (gI N3.2 67 52)) + v2) 208 (iK (gI N3.2 67 52) 13 (iK (gI N3.2 67 52) 13 (WP (d + 1) 107 267 11 [.ref 67, .int x1, .int (x2 + 1), .int v2] [] 107 (FR b, sI (sI N3.2 95 (ix ((16 * (gI N3.2 67 52)) + v2)) ((gI N3.2 95 (ix ((16 * (gI N3.2 67 52)) + v2))) + 1)) 96 (ix (gI N3.2 67 52)) ((gI N3.2 96 (ix (gI N3.2 67 52))) + 1)) Q)))))))))))))))) :
    WP (d + 1) 107 267 11 [.ref 67, .int x1, .int x2, u3] [] 107 (FR b, M) Q := blk 50 ct267 h
set_option maxRecDepth 100000 in
theorem v267_107 {d : Nat} {b : Bool} {M : M2} {Q : QT} {x1 : Int32} {x2 : Int32} {u3 : Value} {s0 : Int32} {s1 : Int32} (h : iK s1 13 (WP d 107 268 0 [.ref 67, U] [] 107 (FR b, sI (sI M 97 (ix s1) s0) 67 52 ((gI M 67 52) + 1)) (rV (fun N1 => N1.1 = FR b ∧ (WP (d + 1) 107 267 11 [.ref 67, .int x1, .int (x2 + 1), u3] [] 107 (FR b, N1.2) Q))))) :
    WP (d + 1) 107 267 107 [.ref 67, .int x1, .int x2, u3] [.int s0, .int s1, .ref 97] 107 (FR b, M) Q := blk 13 ct267 h
/- StyliteOverheardModel.clearPhrase()V -/
def ct268 : Nat → Bool := fun pc => Nat.beq pc 2
set_option maxRecDepth 100000 in
theorem v268_0 {d : Nat} {b : Bool} {M : M2} {Q : QT} {u1 : Value} (h : WP (d + 1) 107 268 2 [.ref 67, .int 0] [] 107 (FR b, M) Q) :
    WP (d + 1) 107 268 0 [.ref 67, u1] [] 107 (FR b, M) Q := blk 4 ct268 h
set_option maxRecDepth 100000 in
theorem v268_2 {d : Nat} {b : Bool} {M : M2} {Q : QT} {x1 : Int32} (h : brK (16 ≤ x1) (iK (gI M 67 52) 13 (Q none (FR b, sI M 96 (ix (gI M 67 52)) 0))) (iK ((16 * (gI M 67 52)) + x1) 208 (WP (d + 1) 107 268 2 [.ref 67, .int (x1 + 1)] [] 107 (FR b, sI M 95 (ix ((16 * (gI M 67 52)) + x1)) 0) Q))) :
    WP (d + 1) 107 268 2 [.ref 67, .int x1] [] 107 (FR b, M) Q := blk 17 ct268 h
/- StyliteOverheardModel.isSoBy(II)Z -/
def ct269 : Nat → Bool := fun pc => Nat.beq pc 5
set_option maxRecDepth 100000 in
theorem v269_0 {d : Nat} {b : Bool} {M : M2} {Q : QT} {x1 : Int32} {x2 : Int32} {u3 : Value} {u4 : Value} (h : WP (d + 1) 107 269 5 [.ref 67, .int x1, .int x2, .int 0, .int 0] [] 107 (FR b, M) Q) :
    WP (d + 1) 107 269 0 [.ref 67, .int x1, .int x2, u3, u4] [] 107 (FR b, M) Q := blk 6 ct269 h
set_option maxRecDepth 100000 in
theorem v269_5 {d : Nat} {b : Bool} {M : M2} {Q : QT} {x1 : Int32} {x2 : Int32} {x3 : Int32} {x4 : Int32} (h : brK (16 ≤ x4) (iK x2 13 (WP d 107 264 0 [.int x3, .int (gI M 96 (ix x2))] [] 107 (FR b, M) (rI (fun v2 N1 => N1.1 = FR b ∧ (iK x2 13 (brK (v2 = (gI N1.2 97 (ix x2))) (Q (some (.int 1)) (FR b, N1.2)) (Q (some (.int 0)) (FR b, N1.2)))))))) (brK (((x1 >>> (x4 &&& 31)) &&& 1) = 1) (iK ((16 * x2) + x4) 208 (WP (d + 1) 107 269 5 [.ref 67, .int x1, .int x2, .int (x3 + (gI M 95 (ix ((16 * x2) + x4)))), .int (x4 + 1)] [] 107 (FR b, M) Q)) (WP (d + 1) 107 269 5 [.ref 67, .int x1, .int x2, .int x3, .int (x4 + 1)] [] 107 (FR b, M) Q))) :
    WP (d + 1) 107 269 5 [.ref 67, .int x1, .int x2, .int x3, .int x4] [] 107 (FR b, M) Q := blk 25 ct269 h
/- StyliteOverheardModel.read(II)I -/
def ct270 : Nat → Bool := fun pc => Nat.beq pc 47
set_option maxRecDepth 100000 in
theorem v270_0 {d : Nat} {b : Bool} {M : M2} {Q : QT} {x1 : Int32} {x2 : Int32} {u3 : Value} {u4 : Value} {u5 : Value} {u6 : Value} {u7 : Value} (h : WP d 107 183 0 [.int x1] [] 107 (FR b, M) (rI (fun v2 N1 => N1.1 = FR b ∧ (brK (v2 = 0) (Q (some (.int (-1))) (FR b, N1.2)) (WP d 107 180 0 [.int x2, .int 0, .int 1] [] 107 (FR b, N1.2) (rI (fun v4 N3 => N3.1 = FR b ∧ (brK (v4 = 0) (Q (some (.int (-1))) (FR b, N3.2)) (WP d 107 221 0 [.ref 67, .int x1, .int 0] [] 107 (FR b, N3.2) (rI (fun v6 N5 => N5.1 = FR b ∧ (brK (0 ≤ v6) (WP d 107 267 0 [.ref 67, .int x1, U, U] [] 107 (FR b, N5.2) (rV (fun N7 => N7.1 = FR b ∧ (WP (d + 1) 107 270 47 [.ref 67, .int x1, .int x2, .int v6, .int (-2), .int 17, .int 0, u7] [] 107 (FR b, N7.2) Q)))) (Q (some (.int v6)) (FR b, N5.2)))))))))))))) :
    WP (d + 1) 107 270 0 [.ref 67, .int x1, .int x2, u3, u4, u5, u6, u7] [] 107 (FR b, M) Q := blk 26 ct270 h
set_option maxRecDepth 100000 in
theorem v270_47 {d : Nat} {b : Bool} {M : M2} {Q : QT} {u1 : Value} {x2 : Int32} {u3 : Value} {x4 : Int32} {x5 : Int32} {x6 : Int32} {u7 : Value} (h : brK (65535 < x6) (brK (x4 < 0) (Q (some (.int x4)) (FR b, M)) (brK (x2 = 1) (Q (some (.int x4)) (FR b, M)) (Q (some (.int x5)) (FR b, M)))) (WP d 107 250 0 [.int x6, U, U] [] 107 (FR b, M) (rI (fun v2 N1 => N1.1 = FR b ∧ (brK (x5 ≤ v2) (WP (d + 1) 107 270 47 [.ref 67, u1, .int x2, u3, .int x4, .int x5, .int (x6 + 1), .int v2] [] 107 (FR b, N1.2) Q) (WP d 107 271 0 [.ref 67, .int x6, U] [] 107 (FR b, N1.2) (rI (fun v4 N3 => N3.1 = FR b ∧ (brK (v4 = 0) (WP (d + 1) 107 270 47 [.ref 67, u1, .int x2, u3, .int x4, .int x5, .int (x6 + 1), .int v2] [] 107 (FR b, N3.2) Q) (WP (d + 1) 107 270 47 [.ref 67, u1, .int x2, kl u3, .int x6, .int v2, .int (x6 + 1), .int v2] [] 107 (FR b, N3.2) Q)))))))))) :
    WP (d + 1) 107 270 47 [.ref 67, u1, .int x2, u3, .int x4, .int x5, .int x6, u7] [] 107 (FR b, M) Q := blk 21 ct270 h
/- StyliteOverheardModel.allSo(I)Z -/
def ct271 : Nat → Bool := fun pc => Nat.beq pc 2
set_option maxRecDepth 100000 in
theorem v271_0 {d : Nat} {b : Bool} {M : M2} {Q : QT} {x1 : Int32} {u2 : Value} (h : WP (d + 1) 107 271 2 [.ref 67, .int x1, .int 0] [] 107 (FR b, M) Q) :
    WP (d + 1) 107 271 0 [.ref 67, .int x1, u2] [] 107 (FR b, M) Q := blk 4 ct271 h
set_option maxRecDepth 100000 in
theorem v271_2 {d : Nat} {b : Bool} {M : M2} {Q : QT} {x1 : Int32} {x2 : Int32} (h : brK ((gI M 67 52) ≤ x2) (Q (some (.int 1)) (FR b, M)) (WP d 107 269 0 [.ref 67, .int x1, .int x2, U, U] [] 107 (FR b, M) (rI (fun v2 N1 => N1.1 = FR b ∧ (brK (v2 = 0) (Q (some (.int 0)) (FR b, N1.2)) (WP (d + 1) 107 271 2 [.ref 67, .int x1, .int (x2 + 1)] [] 107 (FR b, N1.2) Q)))))) :
    WP (d + 1) 107 271 2 [.ref 67, .int x1, .int x2] [] 107 (FR b, M) Q := blk 13 ct271 h
/- StyliteOverheardModel.drawn(IIII)I -/
def ct272 : Nat → Bool := fun pc => Nat.beq pc 81 || Nat.beq pc 97 || Nat.beq pc 146
set_option maxRecDepth 100000 in
theorem v272_0 {d : Nat} {b : Bool} {M : M2} {Q : QT} {x1 : Int32} {x2 : Int32} {x3 : Int32} {x4 : Int32} {u5 : Value} {u6 : Value} {u7 : Value} {u8 : Value} {u9 : Value} (h : brK (x2 < 0) (Q (some (.int (-1))) (FR b, M)) (WP d 107 180 0 [.int (x2 / 100), .int 1, .int 30] [] 107 (FR b, M) (rI (fun v2 N1 => N1.1 = FR b ∧ (brK (v2 = 0) (Q (some (.int (-1))) (FR b, N1.2)) (WP d 107 180 0 [.int (x2 - x2 / 100 * 100), .int 1, .int 24] [] 107 (FR b, N1.2) (rI (fun v4 N3 => N3.1 = FR b ∧ (brK (v4 = 0) (Q (some (.int (-1))) (FR b, N3.2)) (brK (x3 < 0) (Q (some (.int (-1))) (FR b, N3.2)) (WP d 107 193 0 [.int (x3 / 100)] [] 107 (FR b, N3.2) (rI (fun v6 N5 => N5.1 = FR b ∧ (brK (v6 = 0) (Q (some (.int (-1))) (FR b, N5.2)) (WP d 107 180 0 [.int (x3 - x3 / 100 * 100), .int 0, .int 12] [] 107 (FR b, N5.2) (rI (fun v8 N7 => N7.1 = FR b ∧ (brK (v8 = 0) (Q (some (.int (-1))) (FR b, N7.2)) (WP d 107 180 0 [.int x4, .int 0, .int 1] [] 107 (FR b, N7.2) (rI (fun v10 N9 => N9.1 = FR b ∧ (brK (v10 = 0) (Q (some (.int (-1))) (FR b, N9.2)) (WP (d + 1) 107 272 81 [.ref 67, .int x1, .int x2, .int x3, .int x4, .int x1, .int 0, .int 0, .int 0, u9] [] 107 (FR b, N9.2) Q))))))))))))))))))))))) :
    WP (d + 1) 107 272 0 [.ref 67, .int x1, .int x2, .int x3, .int x4, u5, u6, u7, u8, u9] [] 107 (FR b, M) Q := blk 45 ct272 h
set_option maxRecDepth 100000 in
theorem v272_81 {d : Nat} {b : Bool} {M : M2} {Q : QT} {u1 : Value} {x2 : Int32} {x3 : Int32} {x4 : Int32} {x5 : Int32} {x6 : Int32} {x7 : Int32} {x8 : Int32} {u9 : Value} (h : brK ((x2 / 100) ≤ x8) (brK (x4 = 0) (Q (some (.int x6)) (FR b, M)) (Q (some (.int x7)) (FR b, M))) (WP d 107 222 0 [.ref 67] [] 107 (FR b, M) (rV (fun N1 => N1.1 = FR b ∧ (WP (d + 1) 107 272 97 [.ref 67, u1, .int x2, .int x3, .int x4, .int x5, .int x6, .int x7, .int x8, .int 0] [] 107 (FR b, N1.2) Q))))) :
    WP (d + 1) 107 272 81 [.ref 67, u1, .int x2, .int x3, .int x4, .int x5, .int x6, .int x7, .int x8, u9] [] 107 (FR b, M) Q := blk 11 ct272 h
set_option maxRecDepth 100000 in
theorem v272_97 {d : Nat} {b : Bool} {M : M2} {Q : QT} {u1 : Value} {x2 : Int32} {x3 : Int32} {x4 : Int32} {x5 : Int32} {x6 : Int32} {x7 : Int32} {x8 : Int32} {x9 : Int32} (h : brK ((x2 - x2 / 100 * 100) ≤ x9) (WP (d + 1) 107 272 81 [.ref 67, u1, .int x2, .int x3, .int x4, .int x5, .int x6, .int x7, .int (x8 + 1), .int x9] [] 107 (FR b, M) Q) (brK ((x3 - x3 / 100 * 100) ≤ (((((x5 * 1103515245) + 12345).toUInt32 >>> ((16 : Int32).toUInt32 &&& Int32.toUInt32 31)).toInt32) - ((((x5 * 1103515245) + 12345).toUInt32 >>> ((16 : Int32).toUInt32 &&& Int32.toUInt32 31)).toInt32) / 12 * 12)) (WP (d + 1) 107 272 146 [.ref 67, u1, .int x2, .int x3, .int x4, .int ((x5 * 1103515245) + 12345), .int x6, .int x7, .int x8, .int x9] [.int 0, .ref 67] 107 (FR b, M) Q) (WP (d + 1) 107 272 146 [.ref 67, u1, .int x2, .int x3, .int x4, .int ((x5 * 1103515245) + 12345), .int x6, .int x7, .int x8, .int x9] [.int (((((x5 * 1103515245) + 12345).toUInt32 >>> ((8 : Int32).toUInt32 &&& Int32.toUInt32 31)).toInt32) - ((((x5 * 1103515245) + 12345).toUInt32 >>> ((8 : Int32).toUInt32 &&& Int32.toUInt32 31)).toInt32) / 10 * 10), .ref 67] 107 (FR b, M) Q))) :
    WP (d + 1) 107 272 97 [.ref 67, u1, .int x2, .int x3, .int x4, .int x5, .int x6, .int x7, .int x8, .int x9] [] 107 (FR b, M) Q := blk 29 ct272 h
set_option maxRecDepth 100000 in
theorem v272_146 {d : Nat} {b : Bool} {M : M2} {Q : QT} {u1 : Value} {x2 : Int32} {x3 : Int32} {x4 : Int32} {x5 : Int32} {x6 : Int32} {x7 : Int32} {x8 : Int32} {x9 : Int32} {s0 : Int32} (h : WP d 107 225 0 [.ref 67, .int s0] [] 107 (FR b, M) (rV (fun N1 => N1.1 = FR b ∧ (brK ((gI N1.2 67 34) = 0) (brK ((gI N1.2 67 33) = (x3 / 100)) (WP (d + 1) 107 272 97 [.ref 67, u1, .int x2, .int x3, .int x4, .int x5, .int x6, .int (x7 + 1), .int x8, .int (x9 + 1)] [] 107 (FR b, N1.2) Q) (WP (d + 1) 107 272 97 [.ref 67, u1, .int x2, .int x3, .int x4, .int x5, .int x6, .int x7, .int x8, .int (x9 + 1)] [] 107 (FR b, N1.2) Q)) (brK ((gI N1.2 67 33) = (x3 / 100)) (WP (d + 1) 107 272 97 [.ref 67, u1, .int x2, .int x3, .int x4, .int x5, .int (x6 + 1), .int (x7 + 1), .int x8, .int (x9 + 1)] [] 107 (FR b, N1.2) Q) (WP (d + 1) 107 272 97 [.ref 67, u1, .int x2, .int x3, .int x4, .int x5, .int (x6 + 1), .int x7, .int x8, .int (x9 + 1)] [] 107 (FR b, N1.2) Q)))))) :
    WP (d + 1) 107 272 146 [.ref 67, u1, .int x2, .int x3, .int x4, .int x5, .int x6, .int x7, .int x8, .int x9] [.int s0, .ref 67] 107 (FR b, M) Q := blk 16 ct272 h
/- StyliteOverheardModel.hour(I)I -/
def ct273 : Nat → Bool := fun pc => Nat.beq pc 60 || Nat.beq pc 160
set_option maxRecDepth 100000 in
theorem v273_0 {d : Nat} {b : Bool} {M : M2} {Q : QT} {x1 : Int32} {u2 : Value} (h : WP d 107 214 0 [.int x1] [] 107 (FR b, M) (rI (fun v2 N1 => N1.1 = FR b ∧ (brK (v2 = 0) (Q (some (.int (-1))) (FR b, N1.2)) (WP d 107 222 0 [.ref 67] [] 107 (FR b, N1.2) (rV (fun N3 => N3.1 = FR b ∧ (WP d 107 225 0 [.ref 67, .int x1] [] 107 (FR b, N3.2) (rV (fun N4 => N4.1 = FR b ∧ (WP (d + 1) 107 273 60 [.ref 67, .int x1, .int 0] [] 107 (FR b, sI (sI (sI (sI N4.2 68 0 (gI N4.2 67 29)) 68 1 (gI N4.2 67 30)) 68 2 (gI N4.2 67 31)) 68 3 (gI N4.2 67 32)) Q))))))))))) :
    WP (d + 1) 107 273 0 [.ref 67, .int x1, u2] [] 107 (FR b, M) Q := blk 36 ct273 h
set_option maxRecDepth 100000 in
theorem v273_60 {d : Nat} {b : Bool} {M : M2} {Q : QT} {x1 : Int32} {x2 : Int32} (h : brK ((gI M 67 2) ≤ x2) (brK ((gI M 67 34) = 0) (WP (d + 1) 107 273 160 [.ref 67, .int x1, .int x2] [] 107 (FR b, sI M 98 0 ((gI M 98 0) + 1)) Q) (WP (d + 1) 107 273 160 [.ref 67, .int x1, .int x2] [] 107 (FR b, sI (sI M 98 0 ((gI M 98 0) + 1)) 98 1 ((gI M 98 1) + 1)) Q)) (iK x2 6 (brK ((((gI M 69 (ix x2)) >>> ((gI M 67 33) &&& 31)) &&& 1) = 0) (WP (d + 1) 107 273 60 [.ref 67, .int x1, .int (x2 + 1)] [] 107 (FR b, M) Q) (iK x2 6 (brK ((gI M 71 (ix x2)) ≤ (gI M 68 5)) (iK x2 6 (iK x2 6 (iK x2 6 (WP (d + 1) 107 273 60 [.ref 67, .int x1, .int (x2 + 1)] [] 107 (FR b, sI (sI M 72 (ix x2) ((gI M 72 (ix x2)) + 1)) 98 3 ((gI M 98 3) + (gI M 70 (ix x2)))) Q)))) (WP (d + 1) 107 273 60 [.ref 67, .int x1, .int (x2 + 1)] [] 107 (FR b, M) Q)))))) :
    WP (d + 1) 107 273 60 [.ref 67, .int x1, .int x2] [] 107 (FR b, M) Q := blk 46 ct273 h
set_option maxRecDepth 100000 in
theorem v273_160 {d : Nat} {b : Bool} {M : M2} {Q : QT} {x1 : Int32} {u2 : Value} (h : brK (x1 = 0) (brK ((gI M 67 34) = 0) (Q (some (.int (gI M 67 33))) (FR b, M)) (Q (some (.int ((gI M 67 33) + 16))) (FR b, M))) (brK ((gI M 67 34) = 0) (Q (some (.int (gI M 67 33))) (FR b, sI M 98 2 ((gI M 98 2) + 1))) (Q (some (.int ((gI M 67 33) + 16))) (FR b, sI M 98 2 ((gI M 98 2) + 1))))) :
    WP (d + 1) 107 273 160 [.ref 67, .int x1, u2] [] 107 (FR b, M) Q := blk 20 ct273 h
/- StyliteOverheardModel.fed(I)I -/
def ct274 : Nat → Bool := fun _ => false
set_option maxRecDepth 100000 in
theorem v274_0 {d : Nat} {b : Bool} {M : M2} {Q : QT} {x1 : Int32} (h : WP d 107 180 0 [.int x1, .int 0, .int 9] [] 107 (FR b, M) (rI (fun v2 N1 => N1.1 = FR b ∧ (brK (v2 = 0) (Q (some (.int (-1))) (FR b, N1.2)) (brK ((gI N1.2 68 1) ≤ x1) (Q (some (.int 0)) (FR b, sI (sI N1.2 68 1 0) 98 4 ((gI N1.2 98 4) + 1))) (Q (some (.int ((gI N1.2 68 1) - x1))) (FR b, sI (sI N1.2 68 1 ((gI N1.2 68 1) - x1)) 98 4 ((gI N1.2 98 4) + 1)))))))) :
    WP (d + 1) 107 274 0 [.ref 67, .int x1] [] 107 (FR b, M) Q := blk 36 ct274 h
/- StyliteOverheardModel.led(I)I -/
def ct275 : Nat → Bool := fun _ => false
set_option maxRecDepth 100000 in
theorem v275_0 {d : Nat} {b : Bool} {M : M2} {Q : QT} {x1 : Int32} (h : WP d 107 180 0 [.int x1, .int 0, .int 4] [] 107 (FR b, M) (rI (fun v2 N1 => N1.1 = FR b ∧ (brK (v2 = 0) (Q (some (.int (-1))) (FR b, N1.2)) (iK x1 5 (Q (some (.int (gI N1.2 98 (ix x1)))) (FR b, N1.2))))))) :
    WP (d + 1) 107 275 0 [.ref 67, .int x1] [] 107 (FR b, M) Q := blk 12 ct275 h
/- StyliteOverheardModel.image()I -/
def ct276 : Nat → Bool := fun pc => Nat.beq pc 7 || Nat.beq pc 32
set_option maxRecDepth 100000 in
theorem v276_0 {d : Nat} {b : Bool} {M : M2} {Q : QT} {u1 : Value} (h : WP (d + 1) 107 276 7 [.ref 67, .int 0] [] 107 (FR b, sI M 67 54 1) Q) :
    WP (d + 1) 107 276 0 [.ref 67, u1] [] 107 (FR b, M) Q := blk 7 ct276 h
set_option maxRecDepth 100000 in
theorem v276_7 {d : Nat} {b : Bool} {M : M2} {Q : QT} {x1 : Int32} (h : brK (4 ≤ x1) (WP (d + 1) 107 276 32 [.ref 67, .int 0] [] 107 (FR b, M) Q) (iK x1 7 (iK x1 4 (WP (d + 1) 107 276 7 [.ref 67, .int (x1 + 1)] [] 107 (FR b, sI M 99 (ix x1) (gI M 68 (ix x1))) Q)))) :
    WP (d + 1) 107 276 7 [.ref 67, .int x1] [] 107 (FR b, M) Q := blk 15 ct276 h
set_option maxRecDepth 100000 in
theorem v276_32 {d : Nat} {b : Bool} {M : M2} {Q : QT} {x1 : Int32} (h : brK (5 ≤ x1) (Q (some (.int (gI M 98 0))) (FR b, M)) (iK x1 5 (iK x1 5 (WP (d + 1) 107 276 32 [.ref 67, .int (x1 + 1)] [] 107 (FR b, sI M 100 (ix x1) (gI M 98 (ix x1))) Q)))) :
    WP (d + 1) 107 276 32 [.ref 67, .int x1] [] 107 (FR b, M) Q := blk 15 ct276 h
/- StyliteOverheardModel.back()I -/
def ct277 : Nat → Bool := fun pc => Nat.beq pc 12 || Nat.beq pc 37
set_option maxRecDepth 100000 in
theorem v277_0 {d : Nat} {b : Bool} {M : M2} {Q : QT} {u1 : Value} (h : brK ((gI M 67 54) = 0) (Q (some (.int (-5))) (FR b, M)) (WP (d + 1) 107 277 12 [.ref 67, .int 0] [] 107 (FR b, M) Q)) :
    WP (d + 1) 107 277 0 [.ref 67, u1] [] 107 (FR b, M) Q := blk 7 ct277 h
set_option maxRecDepth 100000 in
theorem v277_12 {d : Nat} {b : Bool} {M : M2} {Q : QT} {x1 : Int32} (h : brK (4 ≤ x1) (WP (d + 1) 107 277 37 [.ref 67, .int 0] [] 107 (FR b, M) Q) (iK x1 4 (iK x1 7 (WP (d + 1) 107 277 12 [.ref 67, .int (x1 + 1)] [] 107 (FR b, sI M 68 (ix x1) (gI M 99 (ix x1))) Q)))) :
    WP (d + 1) 107 277 12 [.ref 67, .int x1] [] 107 (FR b, M) Q := blk 15 ct277 h
set_option maxRecDepth 100000 in
theorem v277_37 {d : Nat} {b : Bool} {M : M2} {Q : QT} {x1 : Int32} (h : brK (5 ≤ x1) (Q (some (.int (gI M 98 0))) (FR b, M)) (iK x1 5 (iK x1 5 (WP (d + 1) 107 277 37 [.ref 67, .int (x1 + 1)] [] 107 (FR b, sI M 98 (ix x1) (gI M 100 (ix x1))) Q)))) :
    WP (d + 1) 107 277 37 [.ref 67, .int x1] [] 107 (FR b, M) Q := blk 15 ct277 h
/- StyliteOverheardModel.trace(I)I -/
def ct278 : Nat → Bool := fun _ => false
set_option maxRecDepth 100000 in
theorem v278_0 {d : Nat} {b : Bool} {M : M2} {Q : QT} {x1 : Int32} (h : brK (x1 < 0) (Q (some (.int (-1))) (FR b, M)) (brK ((gI M 67 59) ≤ x1) (Q (some (.int (-1))) (FR b, M)) (brK (24 ≤ x1) (Q (some (.int (-1))) (FR b, M)) (iK x1 24 (Q (some (.int (gI M 102 (ix x1)))) (FR b, M)))))) :
    WP (d + 1) 107 278 0 [.ref 67, .int x1] [] 107 (FR b, M) Q := blk 16 ct278 h
/- StyliteOverheardModel.body(I)I -/
def ct279 : Nat → Bool := fun _ => false
set_option maxRecDepth 100000 in
theorem v279_0 {d : Nat} {b : Bool} {M : M2} {Q : QT} {x1 : Int32} (h : WP d 107 180 0 [.int x1, .int 0, .int 7] [] 107 (FR b, M) (rI (fun v2 N1 => N1.1 = FR b ∧ (brK (v2 = 0) (Q (some (.int (-1))) (FR b, N1.2)) (brK ((gI N1.2 67 57) = 50) (Q (some (.int (-3))) (FR b, N1.2)) (iK (gI N1.2 67 57) 50 (Q (some (.int (((gI N1.2 67 57) + 1) - 1))) (FR b, sI (sI N1.2 101 (ix (gI N1.2 67 57)) x1) 67 57 ((gI N1.2 67 57) + 1))))))))) :
    WP (d + 1) 107 279 0 [.ref 67, .int x1] [] 107 (FR b, M) Q := blk 27 ct279 h
/- StyliteOverheardModel.act(III)I -/
def ct280 : Nat → Bool := fun _ => false
set_option maxRecDepth 100000 in
theorem v280_0 {d : Nat} {b : Bool} {M : M2} {Q : QT} {x1 : Int32} {x2 : Int32} {x3 : Int32} (h : WP d 107 281 0 [.ref 67, .int x1] [] 107 (FR b, sI M 67 59 0) (rI (fun v2 N1 => N1.1 = FR b ∧ (brK (v2 = 0) (Q (some (.int 0)) (FR b, N1.2)) (WP d 107 180 0 [.int x2, .int 0, .int 3] [] 107 (FR b, N1.2) (rI (fun v4 N3 => N3.1 = FR b ∧ (brK (v4 = 0) (Q (some (.int 0)) (FR b, N3.2)) (brK (x2 = 0) (WP d 107 282 0 [.ref 67, .int x1, .int x3] [] 107 (FR b, N3.2) (rI (fun v12 N11 => N11.1 = FR b ∧ (Q (some (.int v12)) (FR b, N11.2))))) (brK (x2 = 1) (WP d 107 287 0 [.ref 67, .int x1, .int x3, U] [] 107 (FR b, N3.2) (rI (fun v10 N9 => N9.1 = FR b ∧ (Q (some (.int v10)) (FR b, N9.2))))) (brK (x2 = 2) (WP d 107 290 0 [.ref 67, .int x1, .int x3, U] [] 107 (FR b, N3.2) (rI (fun v8 N7 => N7.1 = FR b ∧ (Q (some (.int v8)) (FR b, N7.2))))) (WP d 107 293 0 [.ref 67, .int x1, .int x3] [] 107 (FR b, N3.2) (rI (fun v6 N5 => N5.1 = FR b ∧ (Q (some (.int v6)) (FR b, N5.2)))))))))))))))) :
    WP (d + 1) 107 280 0 [.ref 67, .int x1, .int x2, .int x3] [] 107 (FR b, M) Q := blk 27 ct280 h
/- StyliteOverheardModel.isBody(I)Z -/
def ct281 : Nat → Bool := fun _ => false
set_option maxRecDepth 100000 in
theorem v281_0 {d : Nat} {b : Bool} {M : M2} {Q : QT} {x1 : Int32} (h : WP d 107 180 0 [.int x1, .int 0, .int ((gI M 67 57) - 1)] [] 107 (FR b, M) (rI (fun v2 N1 => N1.1 = FR b ∧ (iK v2 2 (Q (some (.int v2)) (FR b, N1.2)))))) :
    WP (d + 1) 107 281 0 [.ref 67, .int x1] [] 107 (FR b, M) Q := blk 9 ct281 h
/- StyliteOverheardModel.saying(II)I -/
def ct282 : Nat → Bool := fun _ => false
set_option maxRecDepth 100000 in
theorem v282_0 {d : Nat} {b : Bool} {M : M2} {Q : QT} {x1 : Int32} {x2 : Int32} (h : iK x1 50 (WP d 107 283 0 [.int (gI M 101 (ix x1)), .int 1] [] 107 (FR b, M) (rI (fun v2 N1 => N1.1 = FR b ∧ (brK (v2 = 0) (iK x1 50 (brK ((gI N1.2 101 (ix x1)) = 7) (WP d 107 284 0 [.ref 67, .int 81] [] 107 (FR b, N1.2) (rV (fun N7 => N7.1 = FR b ∧ (WP d 107 286 0 [.ref 67, .int x1, .int x2] [] 107 (FR b, N7.2) (rI (fun v9 N8 => N8.1 = FR b ∧ (Q (some (.int (v9 - 1))) (FR b, N8.2)))))))) (iK x1 50 (brK ((gI N1.2 101 (ix x1)) = 6) (WP d 107 286 0 [.ref 67, .int x1, .int x2] [] 107 (FR b, N1.2) (rI (fun v6 N5 => N5.1 = FR b ∧ (Q (some (.int v6)) (FR b, N5.2))))) (WP d 107 285 0 [.ref 67, .int x1, .int x2] [] 107 (FR b, N1.2) (rI (fun v4 N3 => N3.1 = FR b ∧ (Q (some (.int v4)) (FR b, N3.2))))))))) (WP d 107 284 0 [.ref 67, .int 20] [] 107 (FR b, N1.2) (rV (fun N10 => N10.1 = FR b ∧ (WP d 107 285 0 [.ref 67, .int x1, .int x2] [] 107 (FR b, N10.2) (rI (fun v12 N11 => N11.1 = FR b ∧ (Q (some (.int (v12 + 3))) (FR b, N11.2))))))))))))) :
    WP (d + 1) 107 282 0 [.ref 67, .int x1, .int x2] [] 107 (FR b, M) Q := blk 26 ct282 h
/- StyliteOverheardModel.isUnder(II)Z -/
def ct283 : Nat → Bool := fun pc => Nat.beq pc 19 || Nat.beq pc 34
set_option maxRecDepth 100000 in
theorem v283_0 {d : Nat} {b : Bool} {M : M2} {Q : QT} {x0 : Int32} {x1 : Int32} (h : brK (x1 = 0) (Q (some (.int 1)) (FR b, M)) (brK (x0 = x1) (Q (some (.int 1)) (FR b, M)) (brK (x1 = 1) (brK (x0 = 4) (Q (some (.int 1)) (FR b, M)) (WP (d + 1) 107 283 19 [.int x0, .int x1] [] 107 (FR b, M) Q)) (WP (d + 1) 107 283 19 [.int x0, .int x1] [] 107 (FR b, M) Q)))) :
    WP (d + 1) 107 283 0 [.int x0, .int x1] [] 107 (FR b, M) Q := blk 15 ct283 h
set_option maxRecDepth 100000 in
theorem v283_19 {d : Nat} {b : Bool} {M : M2} {Q : QT} {x0 : Int32} {x1 : Int32} (h : brK (x1 = 2) (brK (x0 = 3) (Q (some (.int 1)) (FR b, M)) (brK (x0 = 5) (Q (some (.int 1)) (FR b, M)) (WP (d + 1) 107 283 34 [.int x0, .int x1] [] 107 (FR b, M) Q))) (WP (d + 1) 107 283 34 [.int x0, .int x1] [] 107 (FR b, M) Q)) :
    WP (d + 1) 107 283 19 [.int x0, .int x1] [] 107 (FR b, M) Q := blk 13 ct283 h
set_option maxRecDepth 100000 in
theorem v283_34 {d : Nat} {b : Bool} {M : M2} {Q : QT} {x0 : Int32} {x1 : Int32} (h : brK (x1 = 3) (brK (x0 = 5) (Q (some (.int 1)) (FR b, M)) (brK (x1 = 6) (brK (x0 = 7) (Q (some (.int 1)) (FR b, M)) (Q (some (.int 0)) (FR b, M))) (Q (some (.int 0)) (FR b, M)))) (brK (x1 = 6) (brK (x0 = 7) (Q (some (.int 1)) (FR b, M)) (Q (some (.int 0)) (FR b, M))) (Q (some (.int 0)) (FR b, M)))) :
    WP (d + 1) 107 283 34 [.int x0, .int x1] [] 107 (FR b, M) Q := blk 16 ct283 h
/- StyliteOverheardModel.ran(I)V -/
def ct284 : Nat → Bool := fun _ => false
set_option maxRecDepth 100000 in
theorem v284_0 {d : Nat} {b : Bool} {M : M2} {Q : QT} {x1 : Int32} (h : brK (24 ≤ (gI M 67 59)) (Q none (FR b, sI M 67 59 ((gI M 67 59) + 1))) (iK (gI M 67 59) 24 (Q none (FR b, sI (sI M 102 (ix (gI M 67 59)) x1) 67 59 ((gI M 67 59) + 1))))) :
    WP (d + 1) 107 284 0 [.ref 67, .int x1] [] 107 (FR b, M) Q := blk 18 ct284 h
/- StyliteOverheardModel.plainSays(II)I -/
def ct285 : Nat → Bool := fun _ => false
set_option maxRecDepth 100000 in
theorem v285_0 {d : Nat} {b : Bool} {M : M2} {Q : QT} {x1 : Int32} {x2 : Int32} (h : WP d 107 284 0 [.ref 67, .int 1] [] 107 (FR b, M) (rV (fun N1 => N1.1 = FR b ∧ (Q (some (.int (x2 + x1))) (FR b, N1.2))))) :
    WP (d + 1) 107 285 0 [.ref 67, .int x1, .int x2] [] 107 (FR b, M) Q := blk 8 ct285 h
/- StyliteOverheardModel.wellSays(II)I -/
def ct286 : Nat → Bool := fun _ => false
set_option maxRecDepth 100000 in
theorem v286_0 {d : Nat} {b : Bool} {M : M2} {Q : QT} {x1 : Int32} {x2 : Int32} (h : WP d 107 284 0 [.ref 67, .int 70] [] 107 (FR b, M) (rV (fun N1 => N1.1 = FR b ∧ (WP d 107 285 0 [.ref 67, .int x1, .int x2] [] 107 (FR b, N1.2) (rI (fun v3 N2 => N2.1 = FR b ∧ (Q (some (.int (v3 * 2))) (FR b, N2.2)))))))) :
    WP (d + 1) 107 286 0 [.ref 67, .int x1, .int x2] [] 107 (FR b, M) Q := blk 11 ct286 h
/- StyliteOverheardModel.falling(II)I -/
def ct287 : Nat → Bool := fun _ => false
set_option maxRecDepth 100000 in
theorem v287_0 {d : Nat} {b : Bool} {M : M2} {Q : QT} {x1 : Int32} {x2 : Int32} {u3 : Value} (h : iK x1 50 (WP d 107 283 0 [.int (gI M 101 (ix x1)), .int 3] [] 107 (FR b, M) (rI (fun v2 N1 => N1.1 = FR b ∧ (brK (v2 = 0) (iK x1 50 (brK ((gI N1.2 101 (ix x1)) = 7) (WP d 107 284 0 [.ref 67, .int 80] [] 107 (FR b, N1.2) (rV (fun N7 => N7.1 = FR b ∧ (WP d 107 289 0 [.ref 67, .int x1, .int x2] [] 107 (FR b, N7.2) (rI (fun v9 N8 => N8.1 = FR b ∧ (WP d 107 290 0 [.ref 67, .int x1, .int 2, U] [] 107 (FR b, N8.2) (rI (fun v11 N10 => N10.1 = FR b ∧ (Q (some (.int (v9 + v11))) (FR b, N10.2))))))))))) (iK x1 50 (brK ((gI N1.2 101 (ix x1)) = 2) (WP d 107 288 0 [.ref 67, .int x1, .int x2] [] 107 (FR b, N1.2) (rI (fun v6 N5 => N5.1 = FR b ∧ (Q (some (.int v6)) (FR b, N5.2))))) (WP d 107 289 0 [.ref 67, .int x1, .int x2] [] 107 (FR b, N1.2) (rI (fun v4 N3 => N3.1 = FR b ∧ (Q (some (.int v4)) (FR b, N3.2))))))))) (WP d 107 284 0 [.ref 67, .int 41] [] 107 (FR b, N1.2) (rV (fun N12 => N12.1 = FR b ∧ (WP d 107 288 0 [.ref 67, .int x1, .int (x2 + 1)] [] 107 (FR b, N12.2) (rI (fun v14 N13 => N13.1 = FR b ∧ (Q (some (.int v14)) (FR b, N13.2))))))))))))) :
    WP (d + 1) 107 287 0 [.ref 67, .int x1, .int x2, u3] [] 107 (FR b, M) Q := blk 29 ct287 h
/- StyliteOverheardModel.mutterFalls(II)I -/
def ct288 : Nat → Bool := fun _ => false
set_option maxRecDepth 100000 in
theorem v288_0 {d : Nat} {b : Bool} {M : M2} {Q : QT} {x1 : Int32} {x2 : Int32} (h : WP d 107 284 0 [.ref 67, .int 30] [] 107 (FR b, M) (rV (fun N1 => N1.1 = FR b ∧ (WP d 107 289 0 [.ref 67, .int x1, .int x2] [] 107 (FR b, N1.2) (rI (fun v3 N2 => N2.1 = FR b ∧ (Q (some (.int (-v3))) (FR b, N2.2)))))))) :
    WP (d + 1) 107 288 0 [.ref 67, .int x1, .int x2] [] 107 (FR b, M) Q := blk 10 ct288 h
/- StyliteOverheardModel.plainFalls(II)I -/
def ct289 : Nat → Bool := fun _ => false
set_option maxRecDepth 100000 in
theorem v289_0 {d : Nat} {b : Bool} {M : M2} {Q : QT} {x1 : Int32} {x2 : Int32} (h : WP d 107 284 0 [.ref 67, .int 10] [] 107 (FR b, M) (rV (fun N1 => N1.1 = FR b ∧ (WP d 107 282 0 [.ref 67, .int x1, .int x2] [] 107 (FR b, N1.2) (rI (fun v3 N2 => N2.1 = FR b ∧ (Q (some (.int (v3 * 2))) (FR b, N2.2)))))))) :
    WP (d + 1) 107 289 0 [.ref 67, .int x1, .int x2] [] 107 (FR b, M) Q := blk 11 ct289 h
/- StyliteOverheardModel.selling(II)I -/
def ct290 : Nat → Bool := fun _ => false
set_option maxRecDepth 100000 in
theorem v290_0 {d : Nat} {b : Bool} {M : M2} {Q : QT} {x1 : Int32} {x2 : Int32} {u3 : Value} (h : iK x1 50 (brK ((gI M 101 (ix x1)) = 5) (WP d 107 284 0 [.ref 67, .int 60] [] 107 (FR b, M) (rV (fun N5 => N5.1 = FR b ∧ (WP d 107 291 0 [.ref 67, .int x1, .int x2] [] 107 (FR b, N5.2) (rI (fun v7 N6 => N6.1 = FR b ∧ (WP d 107 282 0 [.ref 67, .int x1, .int 2] [] 107 (FR b, N6.2) (rI (fun v9 N8 => N8.1 = FR b ∧ (Q (some (.int (v7 - v9))) (FR b, N8.2))))))))))) (iK x1 50 (brK ((gI M 101 (ix x1)) = 3) (WP d 107 291 0 [.ref 67, .int x1, .int x2] [] 107 (FR b, M) (rI (fun v4 N3 => N3.1 = FR b ∧ (Q (some (.int v4)) (FR b, N3.2))))) (WP d 107 292 0 [.ref 67, .int x1, .int x2] [] 107 (FR b, M) (rI (fun v2 N1 => N1.1 = FR b ∧ (Q (some (.int v2)) (FR b, N1.2))))))))) :
    WP (d + 1) 107 290 0 [.ref 67, .int x1, .int x2, u3] [] 107 (FR b, M) Q := blk 22 ct290 h
/- StyliteOverheardModel.curseSells(II)I -/
def ct291 : Nat → Bool := fun _ => false
set_option maxRecDepth 100000 in
theorem v291_0 {d : Nat} {b : Bool} {M : M2} {Q : QT} {x1 : Int32} {x2 : Int32} (h : WP d 107 284 0 [.ref 67, .int 40] [] 107 (FR b, M) (rV (fun N1 => N1.1 = FR b ∧ (WP d 107 292 0 [.ref 67, .int x1, .int x2] [] 107 (FR b, N1.2) (rI (fun v3 N2 => N2.1 = FR b ∧ (Q (some (.int (v3 * 3))) (FR b, N2.2)))))))) :
    WP (d + 1) 107 291 0 [.ref 67, .int x1, .int x2] [] 107 (FR b, M) Q := blk 11 ct291 h
/- StyliteOverheardModel.plainSells(II)I -/
def ct292 : Nat → Bool := fun _ => false
set_option maxRecDepth 100000 in
theorem v292_0 {d : Nat} {b : Bool} {M : M2} {Q : QT} {x1 : Int32} {x2 : Int32} (h : WP d 107 284 0 [.ref 67, .int 11] [] 107 (FR b, M) (rV (fun N1 => N1.1 = FR b ∧ (Q (some (.int (x2 ^^^ x1))) (FR b, N1.2))))) :
    WP (d + 1) 107 292 0 [.ref 67, .int x1, .int x2] [] 107 (FR b, M) Q := blk 8 ct292 h
/- StyliteOverheardModel.telling(II)I -/
def ct293 : Nat → Bool := fun _ => false
set_option maxRecDepth 100000 in
theorem v293_0 {d : Nat} {b : Bool} {M : M2} {Q : QT} {x1 : Int32} {x2 : Int32} (h : iK x1 50 (brK ((gI M 101 (ix x1)) = 4) (WP d 107 284 0 [.ref 67, .int 50] [] 107 (FR b, M) (rV (fun N6 => N6.1 = FR b ∧ (WP d 107 294 0 [.ref 67, .int x1, .int x2, U] [] 107 (FR b, N6.2) (rI (fun v8 N7 => N7.1 = FR b ∧ (Q (some (.int (v8 ^^^ 5))) (FR b, N7.2)))))))) (iK x1 50 (brK ((gI M 101 (ix x1)) = 5) (WP d 107 284 0 [.ref 67, .int 61] [] 107 (FR b, M) (rV (fun N3 => N3.1 = FR b ∧ (WP d 107 294 0 [.ref 67, .int x1, .int x2, U] [] 107 (FR b, N3.2) (rI (fun v5 N4 => N4.1 = FR b ∧ (Q (some (.int (v5 + 1))) (FR b, N4.2)))))))) (WP d 107 294 0 [.ref 67, .int x1, .int x2, U] [] 107 (FR b, M) (rI (fun v2 N1 => N1.1 = FR b ∧ (Q (some (.int v2)) (FR b, N1.2))))))))) :
    WP (d + 1) 107 293 0 [.ref 67, .int x1, .int x2] [] 107 (FR b, M) Q := blk 23 ct293 h
/- StyliteOverheardModel.plainTells(II)I -/
def ct294 : Nat → Bool := fun _ => false
set_option maxRecDepth 100000 in
theorem v294_0 {d : Nat} {b : Bool} {M : M2} {Q : QT} {x1 : Int32} {x2 : Int32} {u3 : Value} (h : WP d 107 284 0 [.ref 67, .int 2] [] 107 (FR b, M) (rV (fun N1 => N1.1 = FR b ∧ (WP d 107 287 0 [.ref 67, .int x1, .int x2, U] [] 107 (FR b, N1.2) (rI (fun v3 N2 => N2.1 = FR b ∧ (WP d 107 290 0 [.ref 67, .int x1, .int 1, U] [] 107 (FR b, N2.2) (rI (fun v5 N4 => N4.1 = FR b ∧ (Q (some (.int (v3 - v5))) (FR b, N4.2))))))))))) :
    WP (d + 1) 107 294 0 [.ref 67, .int x1, .int x2, u3] [] 107 (FR b, M) Q := blk 16 ct294 h
/- StyliteOverheardModel.count(I)I -/
def ct295 : Nat → Bool := fun _ => false
set_option maxRecDepth 100000 in
theorem v295_0 {d : Nat} {b : Bool} {M : M2} {Q : QT} {x1 : Int32} (h : (x1 = 0 → Q (some (.int (gI M 67 2))) (FR b, M)) ∧ (¬ x1 = 0 → (x1 = 1 → Q (some (.int (gI M 67 7))) (FR b, M)) ∧ (¬ x1 = 1 → (x1 = 2 → Q (some (.int (gI M 67 16))) (FR b, M)) ∧ (¬ x1 = 2 → (x1 = 3 → Q (some (.int (gI M 67 9))) (FR b, M)) ∧ (¬ x1 = 3 → (x1 = 4 → Q (some (.int (gI M 67 57))) (FR b, M)) ∧ (¬ x1 = 4 → (x1 = 5 → Q (some (.int (gI M 67 59))) (FR b, M)) ∧ (¬ x1 = 5 → Q (some (.int (-1))) (FR b, M)))))))) :
    WP (d + 1) 107 295 0 [.ref 67, .int x1] [] 107 (FR b, M) Q := blk 6 ct295 h
/- StyliteOverheardModel.keep(II)I -/
def ct296 : Nat → Bool := fun _ => false
set_option maxRecDepth 100000 in
theorem v296_0 {d : Nat} {b : Bool} {M : M2} {Q : QT} {x1 : Int32} {x2 : Int32} (h : WP d 107 183 0 [.int x1] [] 107 (FR b, M) (rI (fun v2 N1 => N1.1 = FR b ∧ (brK (v2 = 0) (Q (some (.int (-1))) (FR b, N1.2)) (brK (x2 = (-1)) (iK x1 6 (Q (some (.int 1)) (FR b, sI N1.2 103 (ix x1) x2))) (WP d 107 281 0 [.ref 67, .int x2] [] 107 (FR b, N1.2) (rI (fun v4 N3 => N3.1 = FR b ∧ (brK (v4 = 0) (Q (some (.int (-1))) (FR b, N3.2)) (iK x1 6 (Q (some (.int 1)) (FR b, sI N3.2 103 (ix x1) x2)))))))))))) :
    WP (d + 1) 107 296 0 [.ref 67, .int x1, .int x2] [] 107 (FR b, M) Q := blk 18 ct296 h
/- StyliteOverheardModel.row(III)I -/
def ct297 : Nat → Bool := fun pc => Nat.beq pc 54
set_option maxRecDepth 100000 in
theorem v297_0 {d : Nat} {b : Bool} {M : M2} {Q : QT} {x1 : Int32} {x2 : Int32} {x3 : Int32} {u4 : Value} (h : WP d 107 183 0 [.int x1] [] 107 (FR b, M) (rI (fun v2 N1 => N1.1 = FR b ∧ (brK (v2 = 0) (Q (some (.int (-1))) (FR b, N1.2)) (WP d 107 180 0 [.int x2, .int 0, .int 4] [] 107 (FR b, N1.2) (rI (fun v4 N3 => N3.1 = FR b ∧ (brK (v4 = 0) (Q (some (.int (-1))) (FR b, N3.2)) (brK (x3 ≤ 60) (brK (0 ≤ x3) (iK x1 6 (iK x1 6 (WP (d + 1) 107 297 54 [.ref 67, .int x1, .int x2, .int x3, .int (60 * x1)] [] 107 (FR b, sI (sI N3.2 103 (ix x1) ((-2) - x2)) 104 (ix x1) x3) Q))) (Q (some (.int (-14))) (FR b, N3.2))) (Q (some (.int (-1))) (FR b, N3.2))))))))))) :
    WP (d + 1) 107 297 0 [.ref 67, .int x1, .int x2, .int x3, u4] [] 107 (FR b, M) Q := blk 31 ct297 h
set_option maxRecDepth 100000 in
theorem v297_54 {d : Nat} {b : Bool} {M : M2} {Q : QT} {x1 : Int32} {u2 : Value} {u3 : Value} {x4 : Int32} (h : brK (((60 * x1) + 60) ≤ x4) (Q (some (.int 1)) (FR b, M)) (iK x4 360 (WP (d + 1) 107 297 54 [.ref 67, .int x1, u2, kl u3, .int (x4 + 1)] [] 107 (FR b, sL M 105 (ix x4) 0) Q))) :
    WP (d + 1) 107 297 54 [.ref 67, .int x1, u2, u3, .int x4] [] 107 (FR b, M) Q := blk 16 ct297 h
/- StyliteOverheardModel.put(IIJ)I -/
def ct298 : Nat → Bool := fun _ => false
set_option maxRecDepth 100000 in
theorem v298_0 {d : Nat} {b : Bool} {M : M2} {Q : QT} {x1 : Int32} {x2 : Int32} {x3 : Int64} {u5 : Value} {u6 : Value} (h : WP d 107 299 0 [.ref 67, .int x1, .int x2] [] 107 (FR b, M) (rI (fun v2 N1 => N1.1 = FR b ∧ (brK (0 ≤ v2) (iK x1 6 (brK (((-2) - (gI N1.2 103 (ix x1))) = 0) (iK ((60 * x1) + x2) 360 (Q (some (.int 1)) (FR b, sL N1.2 105 (ix ((60 * x1) + x2)) x3.toInt32.toInt8.toInt32.toInt64))) (brK (((-2) - (gI N1.2 103 (ix x1))) = 1) (iK ((60 * x1) + x2) 360 (Q (some (.int 1)) (FR b, sL N1.2 105 (ix ((60 * x1) + x2)) x3.toInt32.toInt16.toInt32.toInt64))) (brK (((-2) - (gI N1.2 103 (ix x1))) = 2) (iK ((60 * x1) + x2) 360 (Q (some (.int 1)) (FR b, sL N1.2 105 (ix ((60 * x1) + x2)) x3.toInt32.toInt64))) (brK (((-2) - (gI N1.2 103 (ix x1))) = 3) (iK ((60 * x1) + x2) 360 (Q (some (.int 1)) (FR b, sL N1.2 105 (ix ((60 * x1) + x2)) x3))) (brK ((lg_cmp x3 0) = 0) (iK ((60 * x1) + x2) 360 (Q (some (.int 1)) (FR b, sL N1.2 105 (ix ((60 * x1) + x2)) 0))) (iK ((60 * x1) + x2) 360 (Q (some (.int 1)) (FR b, sL N1.2 105 (ix ((60 * x1) + x2)) 1))))))))) (Q (some (.int v2)) (FR b, N1.2)))))) :
    WP (d + 1) 107 298 0 [.ref 67, .int x1, .int x2, .long x3, U, u5, u6] [] 107 (FR b, M) Q := blk 42 ct298 h
/- StyliteOverheardModel.whyNoPlace(II)I -/
def ct299 : Nat → Bool := fun _ => false
set_option maxRecDepth 100000 in
theorem v299_0 {d : Nat} {b : Bool} {M : M2} {Q : QT} {x1 : Int32} {x2 : Int32} (h : WP d 107 183 0 [.int x1] [] 107 (FR b, M) (rI (fun v2 N1 => N1.1 = FR b ∧ (brK (v2 = 0) (Q (some (.int (-1))) (FR b, N1.2)) (iK x1 6 (brK ((gI N1.2 103 (ix x1)) = (-1)) (Q (some (.int (-11))) (FR b, N1.2)) (iK x1 6 (brK ((gI N1.2 103 (ix x1)) < 0) (iK x1 6 (WP d 107 180 0 [.int x2, .int 0, .int ((gI N1.2 104 (ix x1)) - 1)] [] 107 (FR b, N1.2) (rI (fun v4 N3 => N3.1 = FR b ∧ (brK (v4 = 0) (Q (some (.int (-13))) (FR b, N3.2)) (Q (some (.int 0)) (FR b, N3.2))))))) (Q (some (.int (-12))) (FR b, N1.2)))))))))) :
    WP (d + 1) 107 299 0 [.ref 67, .int x1, .int x2] [] 107 (FR b, M) Q := blk 28 ct299 h
/- StyliteOverheardModel.element(II)J -/
def ct300 : Nat → Bool := fun _ => false
set_option maxRecDepth 100000 in
theorem v300_0 {d : Nat} {b : Bool} {M : M2} {Q : QT} {x1 : Int32} {x2 : Int32} (h : WP d 107 299 0 [.ref 67, .int x1, .int x2] [] 107 (FR b, M) (rI (fun v2 N1 => N1.1 = FR b ∧ (brK (0 ≤ v2) (iK ((60 * x1) + x2) 360 (Q (some (.long (gL N1.2 105 (ix ((60 * x1) + x2))))) (FR b, N1.2))) (Q (some (.long (-9223372036854775808))) (FR b, N1.2)))))) :
    WP (d + 1) 107 300 0 [.ref 67, .int x1, .int x2] [] 107 (FR b, M) Q := blk 15 ct300 h
/- StyliteOverheardModel.shift(IIIII)I -/
def ct301 : Nat → Bool := fun pc => Nat.beq pc 113 || Nat.beq pc 150
set_option maxRecDepth 100000 in
theorem v301_0 {d : Nat} {b : Bool} {M : M2} {Q : QT} {x1 : Int32} {x2 : Int32} {x3 : Int32} {x4 : Int32} {x5 : Int32} {u6 : Value} (h : WP d 107 183 0 [.int x1] [] 107 (FR b, M) (rI (fun v2 N1 => N1.1 = FR b ∧ (brK (v2 = 0) (Q (some (.int (-1))) (FR b, N1.2)) (WP d 107 183 0 [.int x3] [] 107 (FR b, N1.2) (rI (fun v4 N3 => N3.1 = FR b ∧ (brK (v4 = 0) (Q (some (.int (-1))) (FR b, N3.2)) (iK x1 6 (brK ((gI N3.2 103 (ix x1)) = (-1)) (Q (some (.int (-11))) (FR b, N3.2)) (iK x3 6 (brK ((gI N3.2 103 (ix x3)) = (-1)) (Q (some (.int (-11))) (FR b, N3.2)) (iK x1 6 (brK (0 ≤ (gI N3.2 103 (ix x1))) (Q (some (.int (-12))) (FR b, N3.2)) (iK x1 6 (iK x3 6 (brK ((gI N3.2 103 (ix x1)) = (gI N3.2 103 (ix x3))) (brK (x5 < 0) (Q (some (.int (-13))) (FR b, N3.2)) (brK (x2 < 0) (Q (some (.int (-13))) (FR b, N3.2)) (brK (x4 < 0) (Q (some (.int (-13))) (FR b, N3.2)) (iK x1 6 (brK (((gI N3.2 104 (ix x1)) - x5) < x2) (Q (some (.int (-13))) (FR b, N3.2)) (iK x3 6 (brK (x4 ≤ ((gI N3.2 104 (ix x3)) - x5)) (WP (d + 1) 107 301 113 [.ref 67, .int x1, .int x2, .int x3, .int x4, .int x5, .int 0] [] 107 (FR b, N3.2) Q) (Q (some (.int (-13))) (FR b, N3.2))))))))) (Q (some (.int (-12))) (FR b, N3.2))))))))))))))))))) :
    WP (d + 1) 107 301 0 [.ref 67, .int x1, .int x2, .int x3, .int x4, .int x5, u6] [] 107 (FR b, M) Q := blk 58 ct301 h
set_option maxRecDepth 100000 in
theorem v301_113 {d : Nat} {b : Bool} {M : M2} {Q : QT} {x1 : Int32} {x2 : Int32} {x3 : Int32} {x4 : Int32} {x5 : Int32} {x6 : Int32} (h : brK (x5 ≤ x6) (WP (d + 1) 107 301 150 [.ref 67, .int x1, .int x2, .int x3, .int x4, .int x5, .int 0] [] 107 (FR b, M) Q) (iK (((60 * x1) + x2) + x6) 360 (iK x6 60 (WP (d + 1) 107 301 113 [.ref 67, .int x1, .int x2, .int x3, .int x4, .int x5, .int (x6 + 1)] [] 107 (FR b, sL M 106 (ix x6) (gL M 105 (ix (((60 * x1) + x2) + x6)))) Q)))) :
    WP (d + 1) 107 301 113 [.ref 67, .int x1, .int x2, .int x3, .int x4, .int x5, .int x6] [] 107 (FR b, M) Q := blk 21 ct301 h
set_option maxRecDepth 100000 in
theorem v301_150 {d : Nat} {b : Bool} {M : M2} {Q : QT} {u1 : Value} {u2 : Value} {x3 : Int32} {x4 : Int32} {x5 : Int32} {x6 : Int32} (h : brK (x5 ≤ x6) (Q (some (.int x5)) (FR b, M)) (iK x6 60 (iK (((60 * x3) + x4) + x6) 360 (WP (d + 1) 107 301 150 [.ref 67, u1, u2, .int x3, .int x4, .int x5, .int (x6 + 1)] [] 107 (FR b, sL M 105 (ix (((60 * x3) + x4) + x6)) (gL M 106 (ix x6))) Q)))) :
    WP (d + 1) 107 301 150 [.ref 67, u1, u2, .int x3, .int x4, .int x5, .int x6] [] 107 (FR b, M) Q := blk 21 ct301 h
/- StyliteOverheardModel.taken(II)I -/
def ct302 : Nat → Bool := fun _ => false
set_option maxRecDepth 100000 in
theorem v302_0 {d : Nat} {b : Bool} {M : M2} {Q : QT} {x1 : Int32} {x2 : Int32} (h : WP d 107 183 0 [.int x1] [] 107 (FR b, M) (rI (fun v2 N1 => N1.1 = FR b ∧ (brK (v2 = 0) (Q (some (.int (-1))) (FR b, N1.2)) (WP d 107 180 0 [.int x2, .int 0, .int 7] [] 107 (FR b, N1.2) (rI (fun v4 N3 => N3.1 = FR b ∧ (brK (v4 = 0) (Q (some (.int (-1))) (FR b, N3.2)) (iK x1 6 (brK ((gI N3.2 103 (ix x1)) = (-1)) (Q (some (.int (-11))) (FR b, N3.2)) (iK x1 6 (brK ((gI N3.2 103 (ix x1)) < 0) (Q (some (.int (-12))) (FR b, N3.2)) (iK x1 6 (iK (gI N3.2 103 (ix x1)) 50 (WP d 107 283 0 [.int (gI N3.2 101 (ix (gI N3.2 103 (ix x1)))), .int x2] [] 107 (FR b, N3.2) (rI (fun v6 N5 => N5.1 = FR b ∧ (brK (v6 = 0) (Q (some (.int (-12))) (FR b, N5.2)) (iK x1 6 (iK (gI N5.2 103 (ix x1)) 50 (Q (some (.int (gI N5.2 101 (ix (gI N5.2 103 (ix x1)))))) (FR b, N5.2)))))))))))))))))))))) :
    WP (d + 1) 107 302 0 [.ref 67, .int x1, .int x2] [] 107 (FR b, M) Q := blk 39 ct302 h
/- StyliteOverheardLaw.law([I)Z -/
def ct303 : Nat → Bool := fun pc => Nat.beq pc 7 || Nat.beq pc 15 || Nat.beq pc 18 || Nat.beq pc 220 || Nat.beq pc 253 || Nat.beq pc 296 || Nat.beq pc 319 || Nat.beq pc 362 || Nat.beq pc 395 || Nat.beq pc 418 || Nat.beq pc 422 || Nat.beq pc 431 || Nat.beq pc 454 || Nat.beq pc 497 || Nat.beq pc 550 || Nat.beq pc 573 || Nat.beq pc 606 || Nat.beq pc 639 || Nat.beq pc 663 || Nat.beq pc 706 || Nat.beq pc 739 || Nat.beq pc 772 || Nat.beq pc 815 || Nat.beq pc 848 || Nat.beq pc 881 || Nat.beq pc 924 || Nat.beq pc 957 || Nat.beq pc 990 || Nat.beq pc 1023 || Nat.beq pc 1056 || Nat.beq pc 1109 || Nat.beq pc 1132 || Nat.beq pc 1155 || Nat.beq pc 1178 || Nat.beq pc 1191 || Nat.beq pc 1204 || Nat.beq pc 1217 || Nat.beq pc 1230 || Nat.beq pc 1253 || Nat.beq pc 1296 || Nat.beq pc 1319 || Nat.beq pc 1352 || Nat.beq pc 1395 || Nat.beq pc 1468 || Nat.beq pc 1502 || Nat.beq pc 1565 || Nat.beq pc 1598 || Nat.beq pc 1621
set_option maxRecDepth 100000 in
theorem v303_18 {d : Nat} {b : Bool} {M : M2} {Q : QT} {x3 : Int32} (h : brK (((gI M 3 0) - 6) < x3) (Q (some (.int 1)) (FR b, M)) (iK x3 (ix (gI M 3 0)) ((((gI M 3 (ix x3 + 1)) &&& 63) = 0 → WP (d + 1) 107 303 220 [.ref 3, .ref 4, .ref 67, .int x3] [] 107 (FR b, M) Q) ∧ (¬ ((gI M 3 (ix x3 + 1)) &&& 63) = 0 → (((gI M 3 (ix x3 + 1)) &&& 63) = 1 → WP (d + 1) 107 303 253 [.ref 3, .ref 4, .ref 67, .int x3] [] 107 (FR b, M) Q) ∧ (¬ ((gI M 3 (ix x3 + 1)) &&& 63) = 1 → (((gI M 3 (ix x3 + 1)) &&& 63) = 2 → WP (d + 1) 107 303 296 [.ref 3, .ref 4, .ref 67, .int x3] [] 107 (FR b, M) Q) ∧ (¬ ((gI M 3 (ix x3 + 1)) &&& 63) = 2 → (((gI M 3 (ix x3 + 1)) &&& 63) = 3 → WP (d + 1) 107 303 319 [.ref 3, .ref 4, .ref 67, .int x3] [] 107 (FR b, M) Q) ∧ (¬ ((gI M 3 (ix x3 + 1)) &&& 63) = 3 → (((gI M 3 (ix x3 + 1)) &&& 63) = 4 → WP (d + 1) 107 303 362 [.ref 3, .ref 4, .ref 67, .int x3] [] 107 (FR b, M) Q) ∧ (¬ ((gI M 3 (ix x3 + 1)) &&& 63) = 4 → (((gI M 3 (ix x3 + 1)) &&& 63) = 5 → WP (d + 1) 107 303 395 [.ref 3, .ref 4, .ref 67, .int x3] [] 107 (FR b, M) Q) ∧ (¬ ((gI M 3 (ix x3 + 1)) &&& 63) = 5 → (((gI M 3 (ix x3 + 1)) &&& 63) = 6 → WP (d + 1) 107 303 418 [.ref 3, .ref 4, .ref 67, .int x3] [] 107 (FR b, M) Q) ∧ (¬ ((gI M 3 (ix x3 + 1)) &&& 63) = 6 → (((gI M 3 (ix x3 + 1)) &&& 63) = 7 → WP (d + 1) 107 303 431 [.ref 3, .ref 4, .ref 67, .int x3] [] 107 (FR b, M) Q) ∧ (¬ ((gI M 3 (ix x3 + 1)) &&& 63) = 7 → (((gI M 3 (ix x3 + 1)) &&& 63) = 8 → WP (d + 1) 107 303 454 [.ref 3, .ref 4, .ref 67, .int x3] [] 107 (FR b, M) Q) ∧ (¬ ((gI M 3 (ix x3 + 1)) &&& 63) = 8 → (((gI M 3 (ix x3 + 1)) &&& 63) = 9 → WP (d + 1) 107 303 497 [.ref 3, .ref 4, .ref 67, .int x3] [] 107 (FR b, M) Q) ∧ (¬ ((gI M 3 (ix x3 + 1)) &&& 63) = 9 → (((gI M 3 (ix x3 + 1)) &&& 63) = 10 → WP (d + 1) 107 303 550 [.ref 3, .ref 4, .ref 67, .int x3] [] 107 (FR b, M) Q) ∧ (¬ ((gI M 3 (ix x3 + 1)) &&& 63) = 10 → (((gI M 3 (ix x3 + 1)) &&& 63) = 11 → WP (d + 1) 107 303 573 [.ref 3, .ref 4, .ref 67, .int x3] [] 107 (FR b, M) Q) ∧ (¬ ((gI M 3 (ix x3 + 1)) &&& 63) = 11 → (((gI M 3 (ix x3 + 1)) &&& 63) = 12 → WP (d + 1) 107 303 606 [.ref 3, .ref 4, .ref 67, .int x3] [] 107 (FR b, M) Q) ∧ (¬ ((gI M 3 (ix x3 + 1)) &&& 63) = 12 → (((gI M 3 (ix x3 + 1)) &&& 63) = 13 → WP (d + 1) 107 303 639 [.ref 3, .ref 4, .ref 67, .int x3] [] 107 (FR b, M) Q) ∧ (¬ ((gI M 3 (ix x3 + 1)) &&& 63) = 13 → (((gI M 3 (ix x3 + 1)) &&& 63) = 14 → WP (d + 1) 107 303 663 [.ref 3, .ref 4, .ref 67, .int x3] [] 107 (FR b, M) Q) ∧ (¬ ((gI M 3 (ix x3 + 1)) &&& 63) = 14 → (((gI M 3 (ix x3 + 1)) &&& 63) = 15 → WP (d + 1) 107 303 706 [.ref 3, .ref 4, .ref 67, .int x3] [] 107 (FR b, M) Q) ∧ (¬ ((gI M 3 (ix x3 + 1)) &&& 63) = 15 → (((gI M 3 (ix x3 + 1)) &&& 63) = 16 → WP (d + 1) 107 303 739 [.ref 3, .ref 4, .ref 67, .int x3] [] 107 (FR b, M) Q) ∧ (¬ ((gI M 3 (ix x3 + 1)) &&& 63) = 16 → (((gI M 3 (ix x3 + 1)) &&& 63) = 17 → WP (d + 1) 107 303 772 [.ref 3, .ref 4, .ref 67, .int x3] [] 107 (FR b, M) Q) ∧ (¬ ((gI M 3 (ix x3 + 1)) &&& 63) = 17 → (((gI M 3 (ix x3 + 1)) &&& 63) = 18 → WP (d + 1) 107 303 815 [.ref 3, .ref 4, .ref 67, .int x3] [] 107 (FR b, M) Q) ∧ (¬ ((gI M 3 (ix x3 + 1)) &&& 63) = 18 → (((gI M 3 (ix x3 + 1)) &&& 63) = 19 → WP (d + 1) 107 303 848 [.ref 3, .ref 4, .ref 67, .int x3] [] 107 (FR b, M) Q) ∧ (¬ ((gI M 3 (ix x3 + 1)) &&& 63) = 19 → (((gI M 3 (ix x3 + 1)) &&& 63) = 20 → WP (d + 1) 107 303 881 [.ref 3, .ref 4, .ref 67, .int x3] [] 107 (FR b, M) Q) ∧ (¬ ((gI M 3 (ix x3 + 1)) &&& 63) = 20 → (((gI M 3 (ix x3 + 1)) &&& 63) = 21 → WP (d + 1) 107 303 924 [.ref 3, .ref 4, .ref 67, .int x3] [] 107 (FR b, M) Q) ∧ (¬ ((gI M 3 (ix x3 + 1)) &&& 63) = 21 → (((gI M 3 (ix x3 + 1)) &&& 63) = 22 → WP (d + 1) 107 303 957 [.ref 3, .ref 4, .ref 67, .int x3] [] 107 (FR b, M) Q) ∧ (¬ ((gI M 3 (ix x3 + 1)) &&& 63) = 22 → (((gI M 3 (ix x3 + 1)) &&& 63) = 23 → WP (d + 1) 107 303 990 [.ref 3, .ref 4, .ref 67, .int x3] [] 107 (FR b, M) Q) ∧ (¬ ((gI M 3 (ix x3 + 1)) &&& 63) = 23 → (((gI M 3 (ix x3 + 1)) &&& 63) = 24 → WP (d + 1) 107 303 1023 [.ref 3, .ref 4, .ref 67, .int x3] [] 107 (FR b, M) Q) ∧ (¬ ((gI M 3 (ix x3 + 1)) &&& 63) = 24 → (((gI M 3 (ix x3 + 1)) &&& 63) = 25 → WP (d + 1) 107 303 1056 [.ref 3, .ref 4, .ref 67, .int x3] [] 107 (FR b, M) Q) ∧ (¬ ((gI M 3 (ix x3 + 1)) &&& 63) = 25 → (((gI M 3 (ix x3 + 1)) &&& 63) = 26 → WP (d + 1) 107 303 1109 [.ref 3, .ref 4, .ref 67, .int x3] [] 107 (FR b, M) Q) ∧ (¬ ((gI M 3 (ix x3 + 1)) &&& 63) = 26 → (((gI M 3 (ix x3 + 1)) &&& 63) = 27 → WP (d + 1) 107 303 1132 [.ref 3, .ref 4, .ref 67, .int x3] [] 107 (FR b, M) Q) ∧ (¬ ((gI M 3 (ix x3 + 1)) &&& 63) = 27 → (((gI M 3 (ix x3 + 1)) &&& 63) = 28 → WP (d + 1) 107 303 1155 [.ref 3, .ref 4, .ref 67, .int x3] [] 107 (FR b, M) Q) ∧ (¬ ((gI M 3 (ix x3 + 1)) &&& 63) = 28 → (((gI M 3 (ix x3 + 1)) &&& 63) = 29 → WP (d + 1) 107 303 1178 [.ref 3, .ref 4, .ref 67, .int x3] [] 107 (FR b, M) Q) ∧ (¬ ((gI M 3 (ix x3 + 1)) &&& 63) = 29 → (((gI M 3 (ix x3 + 1)) &&& 63) = 30 → WP (d + 1) 107 303 1191 [.ref 3, .ref 4, .ref 67, .int x3] [] 107 (FR b, M) Q) ∧ (¬ ((gI M 3 (ix x3 + 1)) &&& 63) = 30 → (((gI M 3 (ix x3 + 1)) &&& 63) = 31 → WP (d + 1) 107 303 1204 [.ref 3, .ref 4, .ref 67, .int x3] [] 107 (FR b, M) Q) ∧ (¬ ((gI M 3 (ix x3 + 1)) &&& 63) = 31 → (((gI M 3 (ix x3 + 1)) &&& 63) = 32 → WP (d + 1) 107 303 1217 [.ref 3, .ref 4, .ref 67, .int x3] [] 107 (FR b, M) Q) ∧ (¬ ((gI M 3 (ix x3 + 1)) &&& 63) = 32 → (((gI M 3 (ix x3 + 1)) &&& 63) = 33 → WP (d + 1) 107 303 1230 [.ref 3, .ref 4, .ref 67, .int x3] [] 107 (FR b, M) Q) ∧ (¬ ((gI M 3 (ix x3 + 1)) &&& 63) = 33 → (((gI M 3 (ix x3 + 1)) &&& 63) = 34 → WP (d + 1) 107 303 1253 [.ref 3, .ref 4, .ref 67, .int x3] [] 107 (FR b, M) Q) ∧ (¬ ((gI M 3 (ix x3 + 1)) &&& 63) = 34 → (((gI M 3 (ix x3 + 1)) &&& 63) = 35 → WP (d + 1) 107 303 1296 [.ref 3, .ref 4, .ref 67, .int x3] [] 107 (FR b, M) Q) ∧ (¬ ((gI M 3 (ix x3 + 1)) &&& 63) = 35 → (((gI M 3 (ix x3 + 1)) &&& 63) = 36 → WP (d + 1) 107 303 1319 [.ref 3, .ref 4, .ref 67, .int x3] [] 107 (FR b, M) Q) ∧ (¬ ((gI M 3 (ix x3 + 1)) &&& 63) = 36 → (((gI M 3 (ix x3 + 1)) &&& 63) = 37 → WP (d + 1) 107 303 1352 [.ref 3, .ref 4, .ref 67, .int x3] [] 107 (FR b, M) Q) ∧ (¬ ((gI M 3 (ix x3 + 1)) &&& 63) = 37 → (((gI M 3 (ix x3 + 1)) &&& 63) = 38 → WP (d + 1) 107 303 1395 [.ref 3, .ref 4, .ref 67, .int x3] [] 107 (FR b, M) Q) ∧ (¬ ((gI M 3 (ix x3 + 1)) &&& 63) = 38 → (((gI M 3 (ix x3 + 1)) &&& 63) = 39 → WP (d + 1) 107 303 1468 [.ref 3, .ref 4, .ref 67, .int x3] [] 107 (FR b, M) Q) ∧ (¬ ((gI M 3 (ix x3 + 1)) &&& 63) = 39 → (((gI M 3 (ix x3 + 1)) &&& 63) = 40 → WP (d + 1) 107 303 1502 [.ref 3, .ref 4, .ref 67, .int x3] [] 107 (FR b, M) Q) ∧ (¬ ((gI M 3 (ix x3 + 1)) &&& 63) = 40 → (((gI M 3 (ix x3 + 1)) &&& 63) = 41 → WP (d + 1) 107 303 1565 [.ref 3, .ref 4, .ref 67, .int x3] [] 107 (FR b, M) Q) ∧ (¬ ((gI M 3 (ix x3 + 1)) &&& 63) = 41 → (((gI M 3 (ix x3 + 1)) &&& 63) = 42 → WP (d + 1) 107 303 1598 [.ref 3, .ref 4, .ref 67, .int x3] [] 107 (FR b, M) Q) ∧ (¬ ((gI M 3 (ix x3 + 1)) &&& 63) = 42 → WP (d + 1) 107 303 1621 [.ref 3, .ref 4, .ref 67, .int x3] [] 107 (FR b, M) Q)))))))))))))))))))))))))))))))))))))))))))))) :
    WP (d + 1) 107 303 18 [.ref 3, .ref 4, .ref 67, .int x3] [] 107 (FR b, M) Q := blk 14 ct303 h
set_option maxRecDepth 100000 in
theorem v303_220 {d : Nat} {b : Bool} {M : M2} {Q : QT} {x3 : Int32} (h : iK (x3 + 1) (ix (gI M 3 0)) (iK (x3 + 2) (ix (gI M 3 0)) (WP d 107 13 0 [.ref 4, .int (gI M 3 (ix (x3 + 1) + 1)), .int (gI M 3 (ix (x3 + 2) + 1))] [] 107 (FR b, M) (rI (fun v2 N1 => N1.1 = FR b ∧ (iK (x3 + 1) (ix (gI N1.2 3 0)) (iK (x3 + 2) (ix (gI N1.2 3 0)) (WP d 107 179 0 [.ref 67, .int (gI N1.2 3 (ix (x3 + 1) + 1)), .int (gI N1.2 3 (ix (x3 + 2) + 1))] [] 107 (FR b, N1.2) (rI (fun v4 N3 => N3.1 = FR b ∧ (brK (v2 = v4) (WP (d + 1) 107 303 1621 [.ref 3, .ref 4, .ref 67, .int x3] [] 107 (FR b, N3.2) Q) (Q (some (.int 0)) (FR b, N3.2))))))))))))) :
    WP (d + 1) 107 303 220 [.ref 3, .ref 4, .ref 67, .int x3] [] 107 (FR b, M) Q := blk 28 ct303 h
set_option maxRecDepth 100000 in
theorem v303_253 {d : Nat} {b : Bool} {M : M2} {Q : QT} {x3 : Int32} (h : iK (x3 + 1) (ix (gI M 3 0)) (iK (x3 + 2) (ix (gI M 3 0)) (iK (x3 + 3) (ix (gI M 3 0)) (WP d 107 17 0 [.ref 4, .int (gI M 3 (ix (x3 + 1) + 1)), .int (gI M 3 (ix (x3 + 2) + 1)), .int (gI M 3 (ix (x3 + 3) + 1)), U, U] [] 107 (FR b, M) (rI (fun v2 N1 => N1.1 = FR b ∧ (iK (x3 + 1) (ix (gI N1.2 3 0)) (iK (x3 + 2) (ix (gI N1.2 3 0)) (iK (x3 + 3) (ix (gI N1.2 3 0)) (WP d 107 182 0 [.ref 67, .int (gI N1.2 3 (ix (x3 + 1) + 1)), .int (gI N1.2 3 (ix (x3 + 2) + 1)), .int (gI N1.2 3 (ix (x3 + 3) + 1)), U, U, U, U] [] 107 (FR b, N1.2) (rI (fun v4 N3 => N3.1 = FR b ∧ (brK (v2 = v4) (WP (d + 1) 107 303 1621 [.ref 3, .ref 4, .ref 67, .int x3] [] 107 (FR b, N3.2) Q) (Q (some (.int 0)) (FR b, N3.2))))))))))))))) :
    WP (d + 1) 107 303 253 [.ref 3, .ref 4, .ref 67, .int x3] [] 107 (FR b, M) Q := blk 38 ct303 h
set_option maxRecDepth 100000 in
theorem v303_296 {d : Nat} {b : Bool} {M : M2} {Q : QT} {x3 : Int32} (h : iK (x3 + 1) (ix (gI M 3 0)) (WP d 107 22 0 [.ref 4, .int (gI M 3 (ix (x3 + 1) + 1))] [] 107 (FR b, M) (rI (fun v2 N1 => N1.1 = FR b ∧ (iK (x3 + 1) (ix (gI N1.2 3 0)) (WP d 107 184 0 [.ref 67, .int (gI N1.2 3 (ix (x3 + 1) + 1))] [] 107 (FR b, N1.2) (rI (fun v4 N3 => N3.1 = FR b ∧ (brK (v2 = v4) (WP (d + 1) 107 303 1621 [.ref 3, .ref 4, .ref 67, .int x3] [] 107 (FR b, N3.2) Q) (Q (some (.int 0)) (FR b, N3.2))))))))))) :
    WP (d + 1) 107 303 296 [.ref 3, .ref 4, .ref 67, .int x3] [] 107 (FR b, M) Q := blk 18 ct303 h
set_option maxRecDepth 100000 in
theorem v303_319 {d : Nat} {b : Bool} {M : M2} {Q : QT} {x3 : Int32} (h : iK (x3 + 1) (ix (gI M 3 0)) (iK (x3 + 2) (ix (gI M 3 0)) (iK (x3 + 3) (ix (gI M 3 0)) (WP d 107 24 0 [.ref 4, .int (gI M 3 (ix (x3 + 1) + 1)), .int (gI M 3 (ix (x3 + 2) + 1)), .int (gI M 3 (ix (x3 + 3) + 1)), U] [] 107 (FR b, M) (rI (fun v2 N1 => N1.1 = FR b ∧ (iK (x3 + 1) (ix (gI N1.2 3 0)) (iK (x3 + 2) (ix (gI N1.2 3 0)) (iK (x3 + 3) (ix (gI N1.2 3 0)) (WP d 107 188 0 [.ref 67, .int (gI N1.2 3 (ix (x3 + 1) + 1)), .int (gI N1.2 3 (ix (x3 + 2) + 1)), .int (gI N1.2 3 (ix (x3 + 3) + 1))] [] 107 (FR b, N1.2) (rI (fun v4 N3 => N3.1 = FR b ∧ (brK (v2 = v4) (WP (d + 1) 107 303 1621 [.ref 3, .ref 4, .ref 67, .int x3] [] 107 (FR b, N3.2) Q) (Q (some (.int 0)) (FR b, N3.2))))))))))))))) :
    WP (d + 1) 107 303 319 [.ref 3, .ref 4, .ref 67, .int x3] [] 107 (FR b, M) Q := blk 38 ct303 h
set_option maxRecDepth 100000 in
theorem v303_362 {d : Nat} {b : Bool} {M : M2} {Q : QT} {x3 : Int32} (h : iK (x3 + 1) (ix (gI M 3 0)) (iK (x3 + 2) (ix (gI M 3 0)) (WP d 107 35 0 [.ref 4, .int (gI M 3 (ix (x3 + 1) + 1)), .int (gI M 3 (ix (x3 + 2) + 1))] [] 107 (FR b, M) (rI (fun v2 N1 => N1.1 = FR b ∧ (iK (x3 + 1) (ix (gI N1.2 3 0)) (iK (x3 + 2) (ix (gI N1.2 3 0)) (WP d 107 196 0 [.ref 67, .int (gI N1.2 3 (ix (x3 + 1) + 1)), .int (gI N1.2 3 (ix (x3 + 2) + 1))] [] 107 (FR b, N1.2) (rI (fun v4 N3 => N3.1 = FR b ∧ (brK (v2 = v4) (WP (d + 1) 107 303 1621 [.ref 3, .ref 4, .ref 67, .int x3] [] 107 (FR b, N3.2) Q) (Q (some (.int 0)) (FR b, N3.2))))))))))))) :
    WP (d + 1) 107 303 362 [.ref 3, .ref 4, .ref 67, .int x3] [] 107 (FR b, M) Q := blk 28 ct303 h
set_option maxRecDepth 100000 in
theorem v303_395 {d : Nat} {b : Bool} {M : M2} {Q : QT} {x3 : Int32} (h : iK (x3 + 1) (ix (gI M 3 0)) (WP d 107 36 0 [.ref 4, .int (gI M 3 (ix (x3 + 1) + 1))] [] 107 (FR b, M) (rI (fun v2 N1 => N1.1 = FR b ∧ (iK (x3 + 1) (ix (gI N1.2 3 0)) (WP d 107 197 0 [.ref 67, .int (gI N1.2 3 (ix (x3 + 1) + 1))] [] 107 (FR b, N1.2) (rI (fun v4 N3 => N3.1 = FR b ∧ (brK (v2 = v4) (WP (d + 1) 107 303 1621 [.ref 3, .ref 4, .ref 67, .int x3] [] 107 (FR b, N3.2) Q) (Q (some (.int 0)) (FR b, N3.2))))))))))) :
    WP (d + 1) 107 303 395 [.ref 3, .ref 4, .ref 67, .int x3] [] 107 (FR b, M) Q := blk 18 ct303 h
set_option maxRecDepth 100000 in
theorem v303_418 {d : Nat} {b : Bool} {M : M2} {Q : QT} {x3 : Int32} (h : WP d 107 38 0 [.ref 4, U] [] 107 (FR b, M) (rI (fun v2 N1 => WP (d + 1) 107 303 422 [.ref 3, .ref 4, .ref 67, .int x3] [.int v2] 107 N1 Q))) :
    WP (d + 1) 107 303 418 [.ref 3, .ref 4, .ref 67, .int x3] [] 107 (FR b, M) Q := blk 3 ct303 h
set_option maxRecDepth 100000 in
theorem v303_422 {d : Nat} {b : Bool} {M : M2} {Q : QT} {x3 : Int32} {s0 : Int32} (h : WP d 107 198 0 [.ref 67, U] [] 107 (FR b, M) (rI (fun v2 N1 => N1.1 = FR b ∧ (brK (s0 = v2) (WP (d + 1) 107 303 1621 [.ref 3, .ref 4, .ref 67, .int x3] [] 107 (FR b, N1.2) Q) (Q (some (.int 0)) (FR b, N1.2)))))) :
    WP (d + 1) 107 303 422 [.ref 3, .ref 4, .ref 67, .int x3] [.int s0] 107 (FR b, M) Q := blk 6 ct303 h
set_option maxRecDepth 100000 in
theorem v303_431 {d : Nat} {b : Bool} {M : M2} {Q : QT} {x3 : Int32} (h : iK (x3 + 1) (ix (gI M 3 0)) (WP d 107 58 0 [.ref 4, .int (gI M 3 (ix (x3 + 1) + 1))] [] 107 (FR b, M) (rI (fun v2 N1 => N1.1 = FR b ∧ (iK (x3 + 1) (ix (gI N1.2 3 0)) (WP d 107 213 0 [.ref 67, .int (gI N1.2 3 (ix (x3 + 1) + 1))] [] 107 (FR b, N1.2) (rI (fun v4 N3 => N3.1 = FR b ∧ (brK (v2 = v4) (WP (d + 1) 107 303 1621 [.ref 3, .ref 4, .ref 67, .int x3] [] 107 (FR b, N3.2) Q) (Q (some (.int 0)) (FR b, N3.2))))))))))) :
    WP (d + 1) 107 303 431 [.ref 3, .ref 4, .ref 67, .int x3] [] 107 (FR b, M) Q := blk 18 ct303 h
set_option maxRecDepth 100000 in
theorem v303_454 {d : Nat} {b : Bool} {M : M2} {Q : QT} {x3 : Int32} (h : iK (x3 + 1) (ix (gI M 3 0)) (iK (x3 + 2) (ix (gI M 3 0)) (iK (x3 + 3) (ix (gI M 3 0)) (WP d 107 64 0 [.ref 4, .int (gI M 3 (ix (x3 + 1) + 1)), .int (gI M 3 (ix (x3 + 2) + 1)), .int (gI M 3 (ix (x3 + 3) + 1)), U] [] 107 (FR b, M) (rI (fun v2 N1 => N1.1 = FR b ∧ (iK (x3 + 1) (ix (gI N1.2 3 0)) (iK (x3 + 2) (ix (gI N1.2 3 0)) (iK (x3 + 3) (ix (gI N1.2 3 0)) (WP d 107 219 0 [.ref 67, .int (gI N1.2 3 (ix (x3 + 1) + 1)), .int (gI N1.2 3 (ix (x3 + 2) + 1)), .int (gI N1.2 3 (ix (x3 + 3) + 1)), U, U, U, U] [] 107 (FR b, N1.2) (rI (fun v4 N3 => N3.1 = FR b ∧ (brK (v2 = v4) (WP (d + 1) 107 303 1621 [.ref 3, .ref 4, .ref 67, .int x3] [] 107 (FR b, N3.2) Q) (Q (some (.int 0)) (FR b, N3.2))))))))))))))) :
    WP (d + 1) 107 303 454 [.ref 3, .ref 4, .ref 67, .int x3] [] 107 (FR b, M) Q := blk 38 ct303 h
set_option maxRecDepth 100000 in
theorem v303_497 {d : Nat} {b : Bool} {M : M2} {Q : QT} {x3 : Int32} (h : iK (x3 + 1) (ix (gI M 3 0)) (iK (x3 + 2) (ix (gI M 3 0)) (iK (x3 + 3) (ix (gI M 3 0)) (iK (x3 + 4) (ix (gI M 3 0)) (WP d 107 77 0 [.ref 4, .int (gI M 3 (ix (x3 + 1) + 1)), .int (gI M 3 (ix (x3 + 2) + 1)), .int (gI M 3 (ix (x3 + 3) + 1)), .int (gI M 3 (ix (x3 + 4) + 1)), U] [] 107 (FR b, M) (rI (fun v2 N1 => N1.1 = FR b ∧ (iK (x3 + 1) (ix (gI N1.2 3 0)) (iK (x3 + 2) (ix (gI N1.2 3 0)) (iK (x3 + 3) (ix (gI N1.2 3 0)) (iK (x3 + 4) (ix (gI N1.2 3 0)) (WP d 107 227 0 [.ref 67, .int (gI N1.2 3 (ix (x3 + 1) + 1)), .int (gI N1.2 3 (ix (x3 + 2) + 1)), .int (gI N1.2 3 (ix (x3 + 3) + 1)), .int (gI N1.2 3 (ix (x3 + 4) + 1)), U, U, U, U] [] 107 (FR b, N1.2) (rI (fun v4 N3 => N3.1 = FR b ∧ (brK (v2 = v4) (WP (d + 1) 107 303 1621 [.ref 3, .ref 4, .ref 67, .int x3] [] 107 (FR b, N3.2) Q) (Q (some (.int 0)) (FR b, N3.2))))))))))))))))) :
    WP (d + 1) 107 303 497 [.ref 3, .ref 4, .ref 67, .int x3] [] 107 (FR b, M) Q := blk 48 ct303 h
set_option maxRecDepth 100000 in
theorem v303_550 {d : Nat} {b : Bool} {M : M2} {Q : QT} {x3 : Int32} (h : iK (x3 + 1) (ix (gI M 3 0)) (WP d 107 82 0 [.ref 4, .int (gI M 3 (ix (x3 + 1) + 1)), U, U] [] 107 (FR b, M) (rI (fun v2 N1 => N1.1 = FR b ∧ (iK (x3 + 1) (ix (gI N1.2 3 0)) (WP d 107 228 0 [.ref 67, .int (gI N1.2 3 (ix (x3 + 1) + 1)), U, U] [] 107 (FR b, N1.2) (rI (fun v4 N3 => N3.1 = FR b ∧ (brK (v2 = v4) (WP (d + 1) 107 303 1621 [.ref 3, .ref 4, .ref 67, .int x3] [] 107 (FR b, N3.2) Q) (Q (some (.int 0)) (FR b, N3.2))))))))))) :
    WP (d + 1) 107 303 550 [.ref 3, .ref 4, .ref 67, .int x3] [] 107 (FR b, M) Q := blk 18 ct303 h
set_option maxRecDepth 100000 in
theorem v303_573 {d : Nat} {b : Bool} {M : M2} {Q : QT} {x3 : Int32} (h : iK (x3 + 1) (ix (gI M 3 0)) (iK (x3 + 2) (ix (gI M 3 0)) (WP d 107 85 0 [.ref 4, .int (gI M 3 (ix (x3 + 1) + 1)), .int (gI M 3 (ix (x3 + 2) + 1))] [] 107 (FR b, M) (rI (fun v2 N1 => N1.1 = FR b ∧ (iK (x3 + 1) (ix (gI N1.2 3 0)) (iK (x3 + 2) (ix (gI N1.2 3 0)) (WP d 107 230 0 [.ref 67, .int (gI N1.2 3 (ix (x3 + 1) + 1)), .int (gI N1.2 3 (ix (x3 + 2) + 1)), U, U] [] 107 (FR b, N1.2) (rI (fun v4 N3 => N3.1 = FR b ∧ (brK (v2 = v4) (WP (d + 1) 107 303 1621 [.ref 3, .ref 4, .ref 67, .int x3] [] 107 (FR b, N3.2) Q) (Q (some (.int 0)) (FR b, N3.2))))))))))))) :
    WP (d + 1) 107 303 573 [.ref 3, .ref 4, .ref 67, .int x3] [] 107 (FR b, M) Q := blk 28 ct303 h
set_option maxRecDepth 100000 in
theorem v303_606 {d : Nat} {b : Bool} {M : M2} {Q : QT} {x3 : Int32} (h : iK (x3 + 1) (ix (gI M 3 0)) (iK (x3 + 2) (ix (gI M 3 0)) (WP d 107 101 0 [.ref 4, .int (gI M 3 (ix (x3 + 1) + 1)), .int (gI M 3 (ix (x3 + 2) + 1)), U, U, U] [] 107 (FR b, M) (rI (fun v2 N1 => N1.1 = FR b ∧ (iK (x3 + 1) (ix (gI N1.2 3 0)) (iK (x3 + 2) (ix (gI N1.2 3 0)) (WP d 107 248 0 [.ref 67, .int (gI N1.2 3 (ix (x3 + 1) + 1)), .int (gI N1.2 3 (ix (x3 + 2) + 1)), U, U] [] 107 (FR b, N1.2) (rI (fun v4 N3 => N3.1 = FR b ∧ (brK (v2 = v4) (WP (d + 1) 107 303 1621 [.ref 3, .ref 4, .ref 67, .int x3] [] 107 (FR b, N3.2) Q) (Q (some (.int 0)) (FR b, N3.2))))))))))))) :
    WP (d + 1) 107 303 606 [.ref 3, .ref 4, .ref 67, .int x3] [] 107 (FR b, M) Q := blk 28 ct303 h
set_option maxRecDepth 100000 in
theorem v303_639 {d : Nat} {b : Bool} {M : M2} {Q : QT} {x3 : Int32} (h : iK (x3 + 1) (ix (gI M 3 0)) (WP d 107 112 0 [.ref 4, .int (gI M 3 (ix (x3 + 1) + 1)), U] [] 107 (FR b, M) (rL (fun v2 N1 => N1.1 = FR b ∧ (iK (x3 + 1) (ix (gI N1.2 3 0)) (WP d 107 242 0 [.ref 67, .int (gI N1.2 3 (ix (x3 + 1) + 1))] [] 107 (FR b, N1.2) (rL (fun v4 N3 => N3.1 = FR b ∧ (brK ((lg_cmp v2 v4) = 0) (WP (d + 1) 107 303 1621 [.ref 3, .ref 4, .ref 67, .int x3] [] 107 (FR b, N3.2) Q) (Q (some (.int 0)) (FR b, N3.2))))))))))) :
    WP (d + 1) 107 303 639 [.ref 3, .ref 4, .ref 67, .int x3] [] 107 (FR b, M) Q := blk 19 ct303 h
set_option maxRecDepth 100000 in
theorem v303_663 {d : Nat} {b : Bool} {M : M2} {Q : QT} {x3 : Int32} (h : iK (x3 + 1) (ix (gI M 3 0)) (iK (x3 + 2) (ix (gI M 3 0)) (iK (x3 + 3) (ix (gI M 3 0)) (WP d 107 113 0 [.ref 4, .int (gI M 3 (ix (x3 + 1) + 1)), .int (gI M 3 (ix (x3 + 2) + 1)), .int (gI M 3 (ix (x3 + 3) + 1)), U] [] 107 (FR b, M) (rI (fun v2 N1 => N1.1 = FR b ∧ (iK (x3 + 1) (ix (gI N1.2 3 0)) (iK (x3 + 2) (ix (gI N1.2 3 0)) (iK (x3 + 3) (ix (gI N1.2 3 0)) (WP d 107 239 0 [.ref 67, .int (gI N1.2 3 (ix (x3 + 1) + 1)), .int (gI N1.2 3 (ix (x3 + 2) + 1)), .int (gI N1.2 3 (ix (x3 + 3) + 1)), U] [] 107 (FR b, N1.2) (rI (fun v4 N3 => N3.1 = FR b ∧ (brK (v2 = v4) (WP (d + 1) 107 303 1621 [.ref 3, .ref 4, .ref 67, .int x3] [] 107 (FR b, N3.2) Q) (Q (some (.int 0)) (FR b, N3.2))))))))))))))) :
    WP (d + 1) 107 303 663 [.ref 3, .ref 4, .ref 67, .int x3] [] 107 (FR b, M) Q := blk 38 ct303 h
set_option maxRecDepth 100000 in
theorem v303_706 {d : Nat} {b : Bool} {M : M2} {Q : QT} {x3 : Int32} (h : iK (x3 + 1) (ix (gI M 3 0)) (iK (x3 + 2) (ix (gI M 3 0)) (WP d 107 115 0 [.ref 4, .int (gI M 3 (ix (x3 + 1) + 1)), .int (gI M 3 (ix (x3 + 2) + 1)), U] [] 107 (FR b, M) (rI (fun v2 N1 => N1.1 = FR b ∧ (iK (x3 + 1) (ix (gI N1.2 3 0)) (iK (x3 + 2) (ix (gI N1.2 3 0)) (WP d 107 241 0 [.ref 67, .int (gI N1.2 3 (ix (x3 + 1) + 1)), .int (gI N1.2 3 (ix (x3 + 2) + 1)), U] [] 107 (FR b, N1.2) (rI (fun v4 N3 => N3.1 = FR b ∧ (brK (v2 = v4) (WP (d + 1) 107 303 1621 [.ref 3, .ref 4, .ref 67, .int x3] [] 107 (FR b, N3.2) Q) (Q (some (.int 0)) (FR b, N3.2))))))))))))) :
    WP (d + 1) 107 303 706 [.ref 3, .ref 4, .ref 67, .int x3] [] 107 (FR b, M) Q := blk 28 ct303 h
set_option maxRecDepth 100000 in
theorem v303_739 {d : Nat} {b : Bool} {M : M2} {Q : QT} {x3 : Int32} (h : iK (x3 + 1) (ix (gI M 3 0)) (iK (x3 + 2) (ix (gI M 3 0)) (WP d 107 116 0 [.ref 4, .int (gI M 3 (ix (x3 + 1) + 1)), .int (gI M 3 (ix (x3 + 2) + 1)), U, U, U, U] [] 107 (FR b, M) (rI (fun v2 N1 => N1.1 = FR b ∧ (iK (x3 + 1) (ix (gI N1.2 3 0)) (iK (x3 + 2) (ix (gI N1.2 3 0)) (WP d 107 253 0 [.ref 67, .int (gI N1.2 3 (ix (x3 + 1) + 1)), .int (gI N1.2 3 (ix (x3 + 2) + 1)), U, U, U, U, U] [] 107 (FR b, N1.2) (rI (fun v4 N3 => N3.1 = FR b ∧ (brK (v2 = v4) (WP (d + 1) 107 303 1621 [.ref 3, .ref 4, .ref 67, .int x3] [] 107 (FR b, N3.2) Q) (Q (some (.int 0)) (FR b, N3.2))))))))))))) :
    WP (d + 1) 107 303 739 [.ref 3, .ref 4, .ref 67, .int x3] [] 107 (FR b, M) Q := blk 28 ct303 h
set_option maxRecDepth 100000 in
theorem v303_772 {d : Nat} {b : Bool} {M : M2} {Q : QT} {x3 : Int32} (h : iK (x3 + 1) (ix (gI M 3 0)) (iK (x3 + 2) (ix (gI M 3 0)) (iK (x3 + 3) (ix (gI M 3 0)) (WP d 107 118 0 [.ref 4, .int (gI M 3 (ix (x3 + 1) + 1)), .int (gI M 3 (ix (x3 + 2) + 1)), .int (gI M 3 (ix (x3 + 3) + 1)), U, U, U] [] 107 (FR b, M) (rI (fun v2 N1 => N1.1 = FR b ∧ (iK (x3 + 1) (ix (gI N1.2 3 0)) (iK (x3 + 2) (ix (gI N1.2 3 0)) (iK (x3 + 3) (ix (gI N1.2 3 0)) (WP d 107 255 0 [.ref 67, .int (gI N1.2 3 (ix (x3 + 1) + 1)), .int (gI N1.2 3 (ix (x3 + 2) + 1)), .int (gI N1.2 3 (ix (x3 + 3) + 1)), U, U, U] [] 107 (FR b, N1.2) (rI (fun v4 N3 => N3.1 = FR b ∧ (brK (v2 = v4) (WP (d + 1) 107 303 1621 [.ref 3, .ref 4, .ref 67, .int x3] [] 107 (FR b, N3.2) Q) (Q (some (.int 0)) (FR b, N3.2))))))))))))))) :
    WP (d + 1) 107 303 772 [.ref 3, .ref 4, .ref 67, .int x3] [] 107 (FR b, M) Q := blk 38 ct303 h
set_option maxRecDepth 100000 in
theorem v303_815 {d : Nat} {b : Bool} {M : M2} {Q : QT} {x3 : Int32} (h : iK (x3 + 1) (ix (gI M 3 0)) (iK (x3 + 2) (ix (gI M 3 0)) (WP d 107 121 0 [.ref 4, .int (gI M 3 (ix (x3 + 1) + 1)), .int (gI M 3 (ix (x3 + 2) + 1)), U, U, U, U, U] [] 107 (FR b, M) (rI (fun v2 N1 => N1.1 = FR b ∧ (iK (x3 + 1) (ix (gI N1.2 3 0)) (iK (x3 + 2) (ix (gI N1.2 3 0)) (WP d 107 258 0 [.ref 67, .int (gI N1.2 3 (ix (x3 + 1) + 1)), .int (gI N1.2 3 (ix (x3 + 2) + 1)), U, U, U, U, U] [] 107 (FR b, N1.2) (rI (fun v4 N3 => N3.1 = FR b ∧ (brK (v2 = v4) (WP (d + 1) 107 303 1621 [.ref 3, .ref 4, .ref 67, .int x3] [] 107 (FR b, N3.2) Q) (Q (some (.int 0)) (FR b, N3.2))))))))))))) :
    WP (d + 1) 107 303 815 [.ref 3, .ref 4, .ref 67, .int x3] [] 107 (FR b, M) Q := blk 28 ct303 h
set_option maxRecDepth 100000 in
theorem v303_848 {d : Nat} {b : Bool} {M : M2} {Q : QT} {x3 : Int32} (h : iK (x3 + 1) (ix (gI M 3 0)) (iK (x3 + 2) (ix (gI M 3 0)) (WP d 107 122 0 [.ref 4, .int (gI M 3 (ix (x3 + 1) + 1)), .int (gI M 3 (ix (x3 + 2) + 1)), U] [] 107 (FR b, M) (rI (fun v2 N1 => N1.1 = FR b ∧ (iK (x3 + 1) (ix (gI N1.2 3 0)) (iK (x3 + 2) (ix (gI N1.2 3 0)) (WP d 107 259 0 [.ref 67, .int (gI N1.2 3 (ix (x3 + 1) + 1)), .int (gI N1.2 3 (ix (x3 + 2) + 1))] [] 107 (FR b, N1.2) (rI (fun v4 N3 => N3.1 = FR b ∧ (brK (v2 = v4) (WP (d + 1) 107 303 1621 [.ref 3, .ref 4, .ref 67, .int x3] [] 107 (FR b, N3.2) Q) (Q (some (.int 0)) (FR b, N3.2))))))))))))) :
    WP (d + 1) 107 303 848 [.ref 3, .ref 4, .ref 67, .int x3] [] 107 (FR b, M) Q := blk 28 ct303 h
set_option maxRecDepth 100000 in
theorem v303_881 {d : Nat} {b : Bool} {M : M2} {Q : QT} {x3 : Int32} (h : iK (x3 + 1) (ix (gI M 3 0)) (iK (x3 + 2) (ix (gI M 3 0)) (iK (x3 + 3) (ix (gI M 3 0)) (WP d 107 127 0 [.ref 4, .int (gI M 3 (ix (x3 + 1) + 1)), .int (gI M 3 (ix (x3 + 2) + 1)), .int (gI M 3 (ix (x3 + 3) + 1)), U, U, U, U, U] [] 107 (FR b, M) (rI (fun v2 N1 => N1.1 = FR b ∧ (iK (x3 + 1) (ix (gI N1.2 3 0)) (iK (x3 + 2) (ix (gI N1.2 3 0)) (iK (x3 + 3) (ix (gI N1.2 3 0)) (WP d 107 261 0 [.ref 67, .int (gI N1.2 3 (ix (x3 + 1) + 1)), .int (gI N1.2 3 (ix (x3 + 2) + 1)), .int (gI N1.2 3 (ix (x3 + 3) + 1)), U, U, U, U, U] [] 107 (FR b, N1.2) (rI (fun v4 N3 => N3.1 = FR b ∧ (brK (v2 = v4) (WP (d + 1) 107 303 1621 [.ref 3, .ref 4, .ref 67, .int x3] [] 107 (FR b, N3.2) Q) (Q (some (.int 0)) (FR b, N3.2))))))))))))))) :
    WP (d + 1) 107 303 881 [.ref 3, .ref 4, .ref 67, .int x3] [] 107 (FR b, M) Q := blk 38 ct303 h
set_option maxRecDepth 100000 in
theorem v303_924 {d : Nat} {b : Bool} {M : M2} {Q : QT} {x3 : Int32} (h : iK (x3 + 1) (ix (gI M 3 0)) (iK (x3 + 2) (ix (gI M 3 0)) (WP d 107 129 0 [.ref 4, .int (gI M 3 (ix (x3 + 1) + 1)), .int (gI M 3 (ix (x3 + 2) + 1)), U] [] 107 (FR b, M) (rI (fun v2 N1 => N1.1 = FR b ∧ (iK (x3 + 1) (ix (gI N1.2 3 0)) (iK (x3 + 2) (ix (gI N1.2 3 0)) (WP d 107 262 0 [.ref 67, .int (gI N1.2 3 (ix (x3 + 1) + 1)), .int (gI N1.2 3 (ix (x3 + 2) + 1)), U] [] 107 (FR b, N1.2) (rI (fun v4 N3 => N3.1 = FR b ∧ (brK (v2 = v4) (WP (d + 1) 107 303 1621 [.ref 3, .ref 4, .ref 67, .int x3] [] 107 (FR b, N3.2) Q) (Q (some (.int 0)) (FR b, N3.2))))))))))))) :
    WP (d + 1) 107 303 924 [.ref 3, .ref 4, .ref 67, .int x3] [] 107 (FR b, M) Q := blk 28 ct303 h
set_option maxRecDepth 100000 in
theorem v303_957 {d : Nat} {b : Bool} {M : M2} {Q : QT} {x3 : Int32} (h : iK (x3 + 1) (ix (gI M 3 0)) (iK (x3 + 2) (ix (gI M 3 0)) (WP d 107 134 0 [.ref 4, .int (gI M 3 (ix (x3 + 1) + 1)), .int (gI M 3 (ix (x3 + 2) + 1)), U] [] 107 (FR b, M) (rI (fun v2 N1 => N1.1 = FR b ∧ (iK (x3 + 1) (ix (gI N1.2 3 0)) (iK (x3 + 2) (ix (gI N1.2 3 0)) (WP d 107 265 0 [.ref 67, .int (gI N1.2 3 (ix (x3 + 1) + 1)), .int (gI N1.2 3 (ix (x3 + 2) + 1)), U, U, U, U] [] 107 (FR b, N1.2) (rI (fun v4 N3 => N3.1 = FR b ∧ (brK (v2 = v4) (WP (d + 1) 107 303 1621 [.ref 3, .ref 4, .ref 67, .int x3] [] 107 (FR b, N3.2) Q) (Q (some (.int 0)) (FR b, N3.2))))))))))))) :
    WP (d + 1) 107 303 957 [.ref 3, .ref 4, .ref 67, .int x3] [] 107 (FR b, M) Q := blk 28 ct303 h
set_option maxRecDepth 100000 in
theorem v303_990 {d : Nat} {b : Bool} {M : M2} {Q : QT} {x3 : Int32} (h : iK (x3 + 1) (ix (gI M 3 0)) (iK (x3 + 2) (ix (gI M 3 0)) (WP d 107 136 0 [.ref 4, .int (gI M 3 (ix (x3 + 1) + 1)), .int (gI M 3 (ix (x3 + 2) + 1)), U] [] 107 (FR b, M) (rI (fun v2 N1 => N1.1 = FR b ∧ (iK (x3 + 1) (ix (gI N1.2 3 0)) (iK (x3 + 2) (ix (gI N1.2 3 0)) (WP d 107 266 0 [.ref 67, .int (gI N1.2 3 (ix (x3 + 1) + 1)), .int (gI N1.2 3 (ix (x3 + 2) + 1)), U, U] [] 107 (FR b, N1.2) (rI (fun v4 N3 => N3.1 = FR b ∧ (brK (v2 = v4) (WP (d + 1) 107 303 1621 [.ref 3, .ref 4, .ref 67, .int x3] [] 107 (FR b, N3.2) Q) (Q (some (.int 0)) (FR b, N3.2))))))))))))) :
    WP (d + 1) 107 303 990 [.ref 3, .ref 4, .ref 67, .int x3] [] 107 (FR b, M) Q := blk 28 ct303 h
set_option maxRecDepth 100000 in
theorem v303_1023 {d : Nat} {b : Bool} {M : M2} {Q : QT} {x3 : Int32} (h : iK (x3 + 1) (ix (gI M 3 0)) (iK (x3 + 2) (ix (gI M 3 0)) (WP d 107 139 0 [.ref 4, .int (gI M 3 (ix (x3 + 1) + 1)), .int (gI M 3 (ix (x3 + 2) + 1)), U, U] [] 107 (FR b, M) (rI (fun v2 N1 => N1.1 = FR b ∧ (iK (x3 + 1) (ix (gI N1.2 3 0)) (iK (x3 + 2) (ix (gI N1.2 3 0)) (WP d 107 270 0 [.ref 67, .int (gI N1.2 3 (ix (x3 + 1) + 1)), .int (gI N1.2 3 (ix (x3 + 2) + 1)), U, U, U, U, U] [] 107 (FR b, N1.2) (rI (fun v4 N3 => N3.1 = FR b ∧ (brK (v2 = v4) (WP (d + 1) 107 303 1621 [.ref 3, .ref 4, .ref 67, .int x3] [] 107 (FR b, N3.2) Q) (Q (some (.int 0)) (FR b, N3.2))))))))))))) :
    WP (d + 1) 107 303 1023 [.ref 3, .ref 4, .ref 67, .int x3] [] 107 (FR b, M) Q := blk 28 ct303 h
set_option maxRecDepth 100000 in
theorem v303_1056 {d : Nat} {b : Bool} {M : M2} {Q : QT} {x3 : Int32} (h : iK (x3 + 1) (ix (gI M 3 0)) (iK (x3 + 2) (ix (gI M 3 0)) (iK (x3 + 3) (ix (gI M 3 0)) (iK (x3 + 4) (ix (gI M 3 0)) (WP d 107 144 0 [.ref 4, .int (gI M 3 (ix (x3 + 1) + 1)), .int (gI M 3 (ix (x3 + 2) + 1)), .int (gI M 3 (ix (x3 + 3) + 1)), .int (gI M 3 (ix (x3 + 4) + 1)), U, U, U, U, U, U, U, U, U, U] [] 107 (FR b, M) (rI (fun v2 N1 => N1.1 = FR b ∧ (iK (x3 + 1) (ix (gI N1.2 3 0)) (iK (x3 + 2) (ix (gI N1.2 3 0)) (iK (x3 + 3) (ix (gI N1.2 3 0)) (iK (x3 + 4) (ix (gI N1.2 3 0)) (WP d 107 272 0 [.ref 67, .int (gI N1.2 3 (ix (x3 + 1) + 1)), .int (gI N1.2 3 (ix (x3 + 2) + 1)), .int (gI N1.2 3 (ix (x3 + 3) + 1)), .int (gI N1.2 3 (ix (x3 + 4) + 1)), U, U, U, U, U] [] 107 (FR b, N1.2) (rI (fun v4 N3 => N3.1 = FR b ∧ (brK (v2 = v4) (WP (d + 1) 107 303 1621 [.ref 3, .ref 4, .ref 67, .int x3] [] 107 (FR b, N3.2) Q) (Q (some (.int 0)) (FR b, N3.2))))))))))))))))) :
    WP (d + 1) 107 303 1056 [.ref 3, .ref 4, .ref 67, .int x3] [] 107 (FR b, M) Q := blk 48 ct303 h
set_option maxRecDepth 100000 in
theorem v303_1109 {d : Nat} {b : Bool} {M : M2} {Q : QT} {x3 : Int32} (h : iK (x3 + 1) (ix (gI M 3 0)) (WP d 107 145 0 [.ref 4, .int (gI M 3 (ix (x3 + 1) + 1)), U] [] 107 (FR b, M) (rI (fun v2 N1 => N1.1 = FR b ∧ (iK (x3 + 1) (ix (gI N1.2 3 0)) (WP d 107 273 0 [.ref 67, .int (gI N1.2 3 (ix (x3 + 1) + 1)), U] [] 107 (FR b, N1.2) (rI (fun v4 N3 => N3.1 = FR b ∧ (brK (v2 = v4) (WP (d + 1) 107 303 1621 [.ref 3, .ref 4, .ref 67, .int x3] [] 107 (FR b, N3.2) Q) (Q (some (.int 0)) (FR b, N3.2))))))))))) :
    WP (d + 1) 107 303 1109 [.ref 3, .ref 4, .ref 67, .int x3] [] 107 (FR b, M) Q := blk 18 ct303 h
set_option maxRecDepth 100000 in
theorem v303_1132 {d : Nat} {b : Bool} {M : M2} {Q : QT} {x3 : Int32} (h : iK (x3 + 1) (ix (gI M 3 0)) (WP d 107 148 0 [.ref 4, .int (gI M 3 (ix (x3 + 1) + 1))] [] 107 (FR b, M) (rI (fun v2 N1 => N1.1 = FR b ∧ (iK (x3 + 1) (ix (gI N1.2 3 0)) (WP d 107 274 0 [.ref 67, .int (gI N1.2 3 (ix (x3 + 1) + 1))] [] 107 (FR b, N1.2) (rI (fun v4 N3 => N3.1 = FR b ∧ (brK (v2 = v4) (WP (d + 1) 107 303 1621 [.ref 3, .ref 4, .ref 67, .int x3] [] 107 (FR b, N3.2) Q) (Q (some (.int 0)) (FR b, N3.2))))))))))) :
    WP (d + 1) 107 303 1132 [.ref 3, .ref 4, .ref 67, .int x3] [] 107 (FR b, M) Q := blk 18 ct303 h
set_option maxRecDepth 100000 in
theorem v303_1155 {d : Nat} {b : Bool} {M : M2} {Q : QT} {x3 : Int32} (h : iK (x3 + 1) (ix (gI M 3 0)) (WP d 107 149 0 [.ref 4, .int (gI M 3 (ix (x3 + 1) + 1))] [] 107 (FR b, M) (rI (fun v2 N1 => N1.1 = FR b ∧ (iK (x3 + 1) (ix (gI N1.2 3 0)) (WP d 107 275 0 [.ref 67, .int (gI N1.2 3 (ix (x3 + 1) + 1))] [] 107 (FR b, N1.2) (rI (fun v4 N3 => N3.1 = FR b ∧ (brK (v2 = v4) (WP (d + 1) 107 303 1621 [.ref 3, .ref 4, .ref 67, .int x3] [] 107 (FR b, N3.2) Q) (Q (some (.int 0)) (FR b, N3.2))))))))))) :
    WP (d + 1) 107 303 1155 [.ref 3, .ref 4, .ref 67, .int x3] [] 107 (FR b, M) Q := blk 18 ct303 h
set_option maxRecDepth 100000 in
theorem v303_1178 {d : Nat} {b : Bool} {M : M2} {Q : QT} {x3 : Int32} (h : WP d 107 150 0 [.ref 4] [] 107 (FR b, M) (rI (fun v2 N1 => N1.1 = FR b ∧ (WP d 107 276 0 [.ref 67, U] [] 107 (FR b, N1.2) (rI (fun v4 N3 => N3.1 = FR b ∧ (brK (v2 = v4) (WP (d + 1) 107 303 1621 [.ref 3, .ref 4, .ref 67, .int x3] [] 107 (FR b, N3.2) Q) (Q (some (.int 0)) (FR b, N3.2))))))))) :
    WP (d + 1) 107 303 1178 [.ref 3, .ref 4, .ref 67, .int x3] [] 107 (FR b, M) Q := blk 8 ct303 h
set_option maxRecDepth 100000 in
theorem v303_1191 {d : Nat} {b : Bool} {M : M2} {Q : QT} {x3 : Int32} (h : WP d 107 152 0 [.ref 4] [] 107 (FR b, M) (rI (fun v2 N1 => N1.1 = FR b ∧ (WP d 107 277 0 [.ref 67, U] [] 107 (FR b, N1.2) (rI (fun v4 N3 => N3.1 = FR b ∧ (brK (v2 = v4) (WP (d + 1) 107 303 1621 [.ref 3, .ref 4, .ref 67, .int x3] [] 107 (FR b, N3.2) Q) (Q (some (.int 0)) (FR b, N3.2))))))))) :
    WP (d + 1) 107 303 1191 [.ref 3, .ref 4, .ref 67, .int x3] [] 107 (FR b, M) Q := blk 8 ct303 h
set_option maxRecDepth 100000 in
theorem v303_1204 {d : Nat} {b : Bool} {M : M2} {Q : QT} {x3 : Int32} (h : WP d 107 154 0 [.ref 4, U] [] 107 (FR b, M) (rI (fun v2 N1 => N1.1 = FR b ∧ (WP d 107 185 0 [.ref 67] [] 107 (FR b, N1.2) (rI (fun v4 N3 => N3.1 = FR b ∧ (brK (v2 = v4) (WP (d + 1) 107 303 1621 [.ref 3, .ref 4, .ref 67, .int x3] [] 107 (FR b, N3.2) Q) (Q (some (.int 0)) (FR b, N3.2))))))))) :
    WP (d + 1) 107 303 1204 [.ref 3, .ref 4, .ref 67, .int x3] [] 107 (FR b, M) Q := blk 8 ct303 h
set_option maxRecDepth 100000 in
theorem v303_1217 {d : Nat} {b : Bool} {M : M2} {Q : QT} {x3 : Int32} (h : WP d 107 156 0 [.ref 4, U] [] 107 (FR b, M) (rI (fun v2 N1 => N1.1 = FR b ∧ (WP d 107 187 0 [.ref 67] [] 107 (FR b, N1.2) (rI (fun v4 N3 => N3.1 = FR b ∧ (brK (v2 = v4) (WP (d + 1) 107 303 1621 [.ref 3, .ref 4, .ref 67, .int x3] [] 107 (FR b, N3.2) Q) (Q (some (.int 0)) (FR b, N3.2))))))))) :
    WP (d + 1) 107 303 1217 [.ref 3, .ref 4, .ref 67, .int x3] [] 107 (FR b, M) Q := blk 8 ct303 h
set_option maxRecDepth 100000 in
theorem v303_1230 {d : Nat} {b : Bool} {M : M2} {Q : QT} {x3 : Int32} (h : iK (x3 + 1) (ix (gI M 3 0)) (WP d 107 158 0 [.ref 4, .int (gI M 3 (ix (x3 + 1) + 1))] [] 107 (FR b, M) (rI (fun v2 N1 => N1.1 = FR b ∧ (iK (x3 + 1) (ix (gI N1.2 3 0)) (WP d 107 279 0 [.ref 67, .int (gI N1.2 3 (ix (x3 + 1) + 1))] [] 107 (FR b, N1.2) (rI (fun v4 N3 => N3.1 = FR b ∧ (brK (v2 = v4) (WP (d + 1) 107 303 1621 [.ref 3, .ref 4, .ref 67, .int x3] [] 107 (FR b, N3.2) Q) (Q (some (.int 0)) (FR b, N3.2))))))))))) :
    WP (d + 1) 107 303 1230 [.ref 3, .ref 4, .ref 67, .int x3] [] 107 (FR b, M) Q := blk 18 ct303 h
set_option maxRecDepth 100000 in
theorem v303_1253 {d : Nat} {b : Bool} {M : M2} {Q : QT} {x3 : Int32} (h : iK (x3 + 1) (ix (gI M 3 0)) (iK (x3 + 2) (ix (gI M 3 0)) (iK (x3 + 3) (ix (gI M 3 0)) (WP d 107 160 0 [.ref 4, .int (gI M 3 (ix (x3 + 1) + 1)), .int (gI M 3 (ix (x3 + 2) + 1)), .int (gI M 3 (ix (x3 + 3) + 1))] [] 107 (FR b, M) (rI (fun v2 N1 => N1.1 = FR b ∧ (iK (x3 + 1) (ix (gI N1.2 3 0)) (iK (x3 + 2) (ix (gI N1.2 3 0)) (iK (x3 + 3) (ix (gI N1.2 3 0)) (WP d 107 280 0 [.ref 67, .int (gI N1.2 3 (ix (x3 + 1) + 1)), .int (gI N1.2 3 (ix (x3 + 2) + 1)), .int (gI N1.2 3 (ix (x3 + 3) + 1))] [] 107 (FR b, N1.2) (rI (fun v4 N3 => N3.1 = FR b ∧ (brK (v2 = v4) (WP (d + 1) 107 303 1621 [.ref 3, .ref 4, .ref 67, .int x3] [] 107 (FR b, N3.2) Q) (Q (some (.int 0)) (FR b, N3.2))))))))))))))) :
    WP (d + 1) 107 303 1253 [.ref 3, .ref 4, .ref 67, .int x3] [] 107 (FR b, M) Q := blk 38 ct303 h
set_option maxRecDepth 100000 in
theorem v303_1296 {d : Nat} {b : Bool} {M : M2} {Q : QT} {x3 : Int32} (h : iK (x3 + 1) (ix (gI M 3 0)) (WP d 107 165 0 [.ref 4, .int (gI M 3 (ix (x3 + 1) + 1))] [] 107 (FR b, M) (rI (fun v2 N1 => N1.1 = FR b ∧ (iK (x3 + 1) (ix (gI N1.2 3 0)) (WP d 107 278 0 [.ref 67, .int (gI N1.2 3 (ix (x3 + 1) + 1))] [] 107 (FR b, N1.2) (rI (fun v4 N3 => N3.1 = FR b ∧ (brK (v2 = v4) (WP (d + 1) 107 303 1621 [.ref 3, .ref 4, .ref 67, .int x3] [] 107 (FR b, N3.2) Q) (Q (some (.int 0)) (FR b, N3.2))))))))))) :
    WP (d + 1) 107 303 1296 [.ref 3, .ref 4, .ref 67, .int x3] [] 107 (FR b, M) Q := blk 18 ct303 h
set_option maxRecDepth 100000 in
theorem v303_1319 {d : Nat} {b : Bool} {M : M2} {Q : QT} {x3 : Int32} (h : iK (x3 + 1) (ix (gI M 3 0)) (iK (x3 + 2) (ix (gI M 3 0)) (WP d 107 166 0 [.ref 4, .int (gI M 3 (ix (x3 + 1) + 1)), .int (gI M 3 (ix (x3 + 2) + 1)), U] [] 107 (FR b, M) (rI (fun v2 N1 => N1.1 = FR b ∧ (iK (x3 + 1) (ix (gI N1.2 3 0)) (iK (x3 + 2) (ix (gI N1.2 3 0)) (WP d 107 296 0 [.ref 67, .int (gI N1.2 3 (ix (x3 + 1) + 1)), .int (gI N1.2 3 (ix (x3 + 2) + 1))] [] 107 (FR b, N1.2) (rI (fun v4 N3 => N3.1 = FR b ∧ (brK (v2 = v4) (WP (d + 1) 107 303 1621 [.ref 3, .ref 4, .ref 67, .int x3] [] 107 (FR b, N3.2) Q) (Q (some (.int 0)) (FR b, N3.2))))))))))))) :
    WP (d + 1) 107 303 1319 [.ref 3, .ref 4, .ref 67, .int x3] [] 107 (FR b, M) Q := blk 28 ct303 h
set_option maxRecDepth 100000 in
theorem v303_1352 {d : Nat} {b : Bool} {M : M2} {Q : QT} {x3 : Int32} (h : iK (x3 + 1) (ix (gI M 3 0)) (iK (x3 + 2) (ix (gI M 3 0)) (iK (x3 + 3) (ix (gI M 3 0)) (WP d 107 167 0 [.ref 4, .int (gI M 3 (ix (x3 + 1) + 1)), .int (gI M 3 (ix (x3 + 2) + 1)), .int (gI M 3 (ix (x3 + 3) + 1)), U] [] 107 (FR b, M) (rI (fun v2 N1 => N1.1 = FR b ∧ (iK (x3 + 1) (ix (gI N1.2 3 0)) (iK (x3 + 2) (ix (gI N1.2 3 0)) (iK (x3 + 3) (ix (gI N1.2 3 0)) (WP d 107 297 0 [.ref 67, .int (gI N1.2 3 (ix (x3 + 1) + 1)), .int (gI N1.2 3 (ix (x3 + 2) + 1)), .int (gI N1.2 3 (ix (x3 + 3) + 1)), U] [] 107 (FR b, N1.2) (rI (fun v4 N3 => N3.1 = FR b ∧ (brK (v2 = v4) (WP (d + 1) 107 303 1621 [.ref 3, .ref 4, .ref 67, .int x3] [] 107 (FR b, N3.2) Q) (Q (some (.int 0)) (FR b, N3.2))))))))))))))) :
    WP (d + 1) 107 303 1352 [.ref 3, .ref 4, .ref 67, .int x3] [] 107 (FR b, M) Q := blk 38 ct303 h
set_option maxRecDepth 100000 in
theorem v303_1395 {d : Nat} {b : Bool} {M : M2} {Q : QT} {x3 : Int32} (h : iK (x3 + 1) (ix (gI M 3 0)) (iK (x3 + 2) (ix (gI M 3 0)) (iK (x3 + 3) (ix (gI M 3 0)) (iK (x3 + 4) (ix (gI M 3 0)) (WP d 107 169 0 [.ref 4, .int (gI M 3 (ix (x3 + 1) + 1)), .int (gI M 3 (ix (x3 + 2) + 1)), .long ((((gI M 3 (ix (x3 + 3) + 1)).toInt64) <<< ((32 : Int32).toInt64 &&& 63)) ||| (((gI M 3 (ix (x3 + 4) + 1)).toInt64) &&& 4294967295)), U, U] [] 107 (FR b, M) (rI (fun v2 N1 => N1.1 = FR b ∧ (iK (x3 + 1) (ix (gI N1.2 3 0)) (iK (x3 + 2) (ix (gI N1.2 3 0)) (iK (x3 + 3) (ix (gI N1.2 3 0)) (iK (x3 + 4) (ix (gI N1.2 3 0)) (WP d 107 298 0 [.ref 67, .int (gI N1.2 3 (ix (x3 + 1) + 1)), .int (gI N1.2 3 (ix (x3 + 2) + 1)), .long ((((gI N1.2 3 (ix (x3 + 3) + 1)).toInt64) <<< ((32 : Int32).toInt64 &&& 63)) ||| (((gI N1.2 3 (ix (x3 + 4) + 1)).toInt64) &&& 4294967295)), U, U, U] [] 107 (FR b, N1.2) (rI (fun v4 N3 => N3.1 = FR b ∧ (brK (v2 = v4) (WP (d + 1) 107 303 1621 [.ref 3, .ref 4, .ref 67, .int x3] [] 107 (FR b, N3.2) Q) (Q (some (.int 0)) (FR b, N3.2))))))))))))))))) :
    WP (d + 1) 107 303 1395 [.ref 3, .ref 4, .ref 67, .int x3] [] 107 (FR b, M) Q := blk 62 ct303 h
set_option maxRecDepth 100000 in
theorem v303_1468 {d : Nat} {b : Bool} {M : M2} {Q : QT} {x3 : Int32} (h : iK (x3 + 1) (ix (gI M 3 0)) (iK (x3 + 2) (ix (gI M 3 0)) (WP d 107 172 0 [.ref 4, .int (gI M 3 (ix (x3 + 1) + 1)), .int (gI M 3 (ix (x3 + 2) + 1)), U] [] 107 (FR b, M) (rL (fun v2 N1 => N1.1 = FR b ∧ (iK (x3 + 1) (ix (gI N1.2 3 0)) (iK (x3 + 2) (ix (gI N1.2 3 0)) (WP d 107 300 0 [.ref 67, .int (gI N1.2 3 (ix (x3 + 1) + 1)), .int (gI N1.2 3 (ix (x3 + 2) + 1))] [] 107 (FR b, N1.2) (rL (fun v4 N3 => N3.1 = FR b ∧ (brK ((lg_cmp v2 v4) = 0) (WP (d + 1) 107 303 1621 [.ref 3, .ref 4, .ref 67, .int x3] [] 107 (FR b, N3.2) Q) (Q (some (.int 0)) (FR b, N3.2))))))))))))) :
    WP (d + 1) 107 303 1468 [.ref 3, .ref 4, .ref 67, .int x3] [] 107 (FR b, M) Q := blk 29 ct303 h
set_option maxRecDepth 100000 in
theorem v303_1502 {d : Nat} {b : Bool} {M : M2} {Q : QT} {x3 : Int32} (h : iK (x3 + 1) (ix (gI M 3 0)) (iK (x3 + 2) (ix (gI M 3 0)) (iK (x3 + 3) (ix (gI M 3 0)) (iK (x3 + 4) (ix (gI M 3 0)) (iK (x3 + 5) (ix (gI M 3 0)) (WP d 107 173 0 [.ref 4, .int (gI M 3 (ix (x3 + 1) + 1)), .int (gI M 3 (ix (x3 + 2) + 1)), .int (gI M 3 (ix (x3 + 3) + 1)), .int (gI M 3 (ix (x3 + 4) + 1)), .int (gI M 3 (ix (x3 + 5) + 1)), U, U] [] 107 (FR b, M) (rI (fun v2 N1 => N1.1 = FR b ∧ (iK (x3 + 1) (ix (gI N1.2 3 0)) (iK (x3 + 2) (ix (gI N1.2 3 0)) (iK (x3 + 3) (ix (gI N1.2 3 0)) (iK (x3 + 4) (ix (gI N1.2 3 0)) (iK (x3 + 5) (ix (gI N1.2 3 0)) (WP d 107 301 0 [.ref 67, .int (gI N1.2 3 (ix (x3 + 1) + 1)), .int (gI N1.2 3 (ix (x3 + 2) + 1)), .int (gI N1.2 3 (ix (x3 + 3) + 1)), .int (gI N1.2 3 (ix (x3 + 4) + 1)), .int (gI N1.2 3 (ix (x3 + 5) + 1)), U] [] 107 (FR b, N1.2) (rI (fun v4 N3 => N3.1 = FR b ∧ (brK (v2 = v4) (WP (d + 1) 107 303 1621 [.ref 3, .ref 4, .ref 67, .int x3] [] 107 (FR b, N3.2) Q) (Q (some (.int 0)) (FR b, N3.2))))))))))))))))))) :
    WP (d + 1) 107 303 1502 [.ref 3, .ref 4, .ref 67, .int x3] [] 107 (FR b, M) Q := blk 58 ct303 h
set_option maxRecDepth 100000 in
theorem v303_1565 {d : Nat} {b : Bool} {M : M2} {Q : QT} {x3 : Int32} (h : iK (x3 + 1) (ix (gI M 3 0)) (iK (x3 + 2) (ix (gI M 3 0)) (WP d 107 175 0 [.ref 4, .int (gI M 3 (ix (x3 + 1) + 1)), .int (gI M 3 (ix (x3 + 2) + 1)), U] [] 107 (FR b, M) (rI (fun v2 N1 => N1.1 = FR b ∧ (iK (x3 + 1) (ix (gI N1.2 3 0)) (iK (x3 + 2) (ix (gI N1.2 3 0)) (WP d 107 302 0 [.ref 67, .int (gI N1.2 3 (ix (x3 + 1) + 1)), .int (gI N1.2 3 (ix (x3 + 2) + 1))] [] 107 (FR b, N1.2) (rI (fun v4 N3 => N3.1 = FR b ∧ (brK (v2 = v4) (WP (d + 1) 107 303 1621 [.ref 3, .ref 4, .ref 67, .int x3] [] 107 (FR b, N3.2) Q) (Q (some (.int 0)) (FR b, N3.2))))))))))))) :
    WP (d + 1) 107 303 1565 [.ref 3, .ref 4, .ref 67, .int x3] [] 107 (FR b, M) Q := blk 28 ct303 h
set_option maxRecDepth 100000 in
theorem v303_1598 {d : Nat} {b : Bool} {M : M2} {Q : QT} {x3 : Int32} (h : iK (x3 + 1) (ix (gI M 3 0)) (WP d 107 177 0 [.ref 4, .int (gI M 3 (ix (x3 + 1) + 1))] [] 107 (FR b, M) (rI (fun v2 N1 => N1.1 = FR b ∧ (iK (x3 + 1) (ix (gI N1.2 3 0)) (WP d 107 295 0 [.ref 67, .int (gI N1.2 3 (ix (x3 + 1) + 1))] [] 107 (FR b, N1.2) (rI (fun v4 N3 => N3.1 = FR b ∧ (brK (v2 = v4) (WP (d + 1) 107 303 1621 [.ref 3, .ref 4, .ref 67, .int x3] [] 107 (FR b, N3.2) Q) (Q (some (.int 0)) (FR b, N3.2))))))))))) :
    WP (d + 1) 107 303 1598 [.ref 3, .ref 4, .ref 67, .int x3] [] 107 (FR b, M) Q := blk 18 ct303 h
set_option maxRecDepth 100000 in
theorem v303_1621 {d : Nat} {b : Bool} {M : M2} {Q : QT} {x3 : Int32} (h : WP (d + 1) 107 303 18 [.ref 3, .ref 4, .ref 67, .int (x3 + 6)] [] 107 (FR b, M) Q) :
    WP (d + 1) 107 303 1621 [.ref 3, .ref 4, .ref 67, .int x3] [] 107 (FR b, M) Q := blk 4 ct303 h
