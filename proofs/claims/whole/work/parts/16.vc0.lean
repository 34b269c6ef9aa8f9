/- StyliteOverheard.stall(II)I -/
def ct13 : Nat → Bool := fun _ => false
set_option maxRecDepth 100000 in
theorem v13_0 {d : Nat} {b : Bool} {M : M2} {Q : QT} {x1 : Int32} {x2 : Int32} (h : WP d 107 14 0 [.int 7, .int x1] [] 107 (FR b, M) (rI (fun v2 N1 => N1.1 = FR b ∧ (brK (v2 = 0) (Q (some (.int (-1))) (FR b, N1.2)) (WP d 107 14 0 [.int 8, .int x2] [] 107 (FR b, N1.2) (rI (fun v4 N3 => N3.1 = FR b ∧ (brK (v4 = 0) (Q (some (.int (-1))) (FR b, N3.2)) (WP d 107 16 0 [.ref 18, .int x1, .int x2, .int 0] [] 107 (FR b, N3.2) (rI (fun v6 N5 => N5.1 = FR b ∧ (Q (some (.int v6)) (FR b, N5.2))))))))))))) :
    WP (d + 1) 107 13 0 [.ref 4, .int x1, .int x2] [] 107 (FR b, M) Q := blk 16 ct13 h
/- StyliteOverheard.isWithin(II)Z -/
def ct14 : Nat → Bool := fun _ => false
set_option maxRecDepth 100000 in
theorem v14_0 {d : Nat} {b : Bool} {M : M2} {Q : QT} {x0 : Int32} {x1 : Int32} (h : brK (x1 < 0) (Q (some (.int 0)) (FR b, M)) (WP d 107 15 0 [.ref 0, .int x0] [] 107 (FR b, M) (rI (fun v2 N1 => N1.1 = FR b ∧ (brK (v2 < x1) (Q (some (.int 0)) (FR b, N1.2)) (Q (some (.int 1)) (FR b, N1.2))))))) :
    WP (d + 1) 107 14 0 [.int x0, .int x1] [] 107 (FR b, M) Q := blk 11 ct14 h
/- StyliteOverheard.at([II)I -/
def ct15 : Nat → Bool := fun _ => false
set_option maxRecDepth 100000 in
theorem v15_0 {d : Nat} {b : Bool} {M : M2} {Q : QT} {r0 : Nat} {x1 : Int32} (h : brK (x1 < 0) (Q (some (.int 0)) (FR b, M)) (rdN 107 r0 (brK ((lenI M r0) ≤ x1) (Q (some (.int 0)) (FR b, M)) (rdI 107 r0 (iK x1 (lenN M r0) (Q (some (.int (ldX M r0 x1))) (FR b, M))))))) :
    WP (d + 1) 107 15 0 [.ref r0, .int x1] [] 107 (FR b, M) Q := blk 12 ct15 h
/- StyliteOverheard$Village.added(III)I -/
def ct16 : Nat → Bool := fun _ => false
set_option maxRecDepth 100000 in
theorem v16_0 {d : Nat} {b : Bool} {M : M2} {Q : QT} {x1 : Int32} {x2 : Int32} {x3 : Int32} (h : brK ((gI M 18 0) < 6) (iK (gI M 18 0) 6 (iK (gI M 18 0) 6 (iK (gI M 18 0) 6 (Q (some (.int (((gI M 18 0) + 1) - 1))) (FR b, sI (sI (sI (sI M 19 (ix (gI M 18 0)) x1) 20 (ix (gI M 18 0)) x2) 21 (ix (gI M 18 0)) x3) 18 0 ((gI M 18 0) + 1)))))) (Q (some (.int (-3))) (FR b, M))) :
    WP (d + 1) 107 16 0 [.ref 18, .int x1, .int x2, .int x3] [] 107 (FR b, M) Q := blk 34 ct16 h
/- StyliteOverheard.stalls(III)I -/
def ct17 : Nat → Bool := fun pc => Nat.beq pc 50
set_option maxRecDepth 100000 in
theorem v17_0 {d : Nat} {b : Bool} {M : M2} {Q : QT} {x1 : Int32} {x2 : Int32} {x3 : Int32} {u4 : Value} {u5 : Value} (h : WP d 107 18 0 [.ref 4, .int x1] [] 107 (FR b, M) (rA (fun N1 => N1.1 = FR b ∧ (Q (some (.int (-1))) (FR b, N1.2))) (fun q2 N1 => N1.1 = FR b ∧ (brK (x3 < 1) (Q (some (.int (-1))) (FR b, N1.2)) (brK (x3 ≤ 6) (oK 107 q2 9 (brK ((gI N1.2 q2 0) = 0) (Q (some (.int 0)) (FR b, N1.2)) (oK 107 q2 9 (WP d 107 19 0 [.ref q2, .int 2] [] 107 (FR b, N1.2) (rI (fun v4 N3 => N3.1 = FR b ∧ (brK (v4 = 0) (Q (some (.int (-12))) (FR b, N3.2)) (WP (d + 1) 107 17 50 [.ref 4, .int x1, .int x2, .int x3, .ref q2, .int 0] [] 107 (FR b, N3.2) Q)))))))) (Q (some (.int (-1))) (FR b, N1.2))))))) :
    WP (d + 1) 107 17 0 [.ref 4, .int x1, .int x2, .int x3, u4, u5] [] 107 (FR b, M) Q := blk 23 ct17 h
set_option maxRecDepth 100000 in
theorem v17_50 {d : Nat} {b : Bool} {M : M2} {Q : QT} {u1 : Value} {x2 : Int32} {x3 : Int32} {r4 : Nat} {x5 : Int32} (h : brK (x3 ≤ x5) (Q (some (.int x5)) (FR b, M)) (WP d 107 20 0 [.ref 4, .ref r4, .int x2, .int x5, U, U, U, U] [] 107 (FR b, M) (rI (fun v2 N1 => N1.1 = FR b ∧ (brK (v2 = 0) (Q (some (.int x5)) (FR b, N1.2)) (WP (d + 1) 107 17 50 [.ref 4, u1, .int x2, .int x3, .ref r4, .int (x5 + 1)] [] 107 (FR b, N1.2) Q)))))) :
    WP (d + 1) 107 17 50 [.ref 4, u1, .int x2, .int x3, .ref r4, .int x5] [] 107 (FR b, M) Q := blk 13 ct17 h
/- StyliteOverheard.shelfAt(I)LStyliteOverheard$Shelf; -/
def ct18 : Nat → Bool := fun _ => false
set_option maxRecDepth 100000 in
theorem v18_0 {d : Nat} {b : Bool} {M : M2} {Q : QT} {x1 : Int32} (h : brK (x1 < 0) (Q (some .null) (FR b, M)) (brK (6 ≤ x1) (Q (some .null) (FR b, M)) (iK x1 6 (rK (FR b 53 (ix x1)) (fun q1 => Q (some (.ref q1)) (FR b, M)))))) :
    WP (d + 1) 107 18 0 [.ref 4, .int x1] [] 107 (FR b, M) Q := blk 14 ct18 h
/- StyliteOverheard$Shelf.isRowOf(I)Z -/
def ct19 : Nat → Bool := fun _ => false
set_option maxRecDepth 100000 in
theorem v19_0 {d : Nat} {b : Bool} {M : M2} {Q : QT} {th : Nat} {x1 : Int32} (h : oK 107 th 9 (brK ((gI M th 0) = 2) (oK 107 th 9 (brK ((gI M th 2) = x1) (Q (some (.int 1)) (FR b, M)) (Q (some (.int 0)) (FR b, M)))) (Q (some (.int 0)) (FR b, M)))) :
    WP (d + 1) 107 19 0 [.ref th, .int x1] [] 107 (FR b, M) Q := blk 12 ct19 h
/- StyliteOverheard.hasCome(LStyliteOverheard$Shelf;II)Z -/
def ct20 : Nat → Bool := fun _ => false
set_option maxRecDepth 100000 in
theorem v20_0 {d : Nat} {b : Bool} {M : M2} {Q : QT} {r1 : Nat} {x2 : Int32} {x3 : Int32} {u4 : Value} {u5 : Value} {u6 : Value} {u7 : Value} (h : brK (x2 < 0) (Q (some (.int 0)) (FR b, M)) (oK 107 r1 9 (brK ((gI M r1 3) < x2) (Q (some (.int 0)) (FR b, M)) (oK 107 r1 9 (brK ((gI M r1 3) < ((x2 + (3 * x3)) + 3)) (Q (some (.int 0)) (FR b, M)) (brK ((gI M 18 0) < 6) (oK 107 r1 9 (WP d 107 21 0 [.ref r1, .int (x2 + (3 * x3))] [] 107 (FR b, M) (rL (fun v2 N1 => N1.1 = FR b ∧ (oK 107 r1 9 (WP d 107 21 0 [.ref r1, .int ((x2 + (3 * x3)) + 1)] [] 107 (FR b, N1.2) (rL (fun v4 N3 => N3.1 = FR b ∧ (oK 107 r1 9 (WP d 107 21 0 [.ref r1, .int ((x2 + (3 * x3)) + 2)] [] 107 (FR b, N3.2) (rL (fun v6 N5 => N5.1 = FR b ∧ (WP d 107 14 0 [.int 7, .int v2.toInt32] [] 107 (FR b, N5.2) (rI (fun v8 N7 => N7.1 = FR b ∧ (brK (v8 = 0) (Q (some (.int 0)) (FR b, N7.2)) (WP d 107 14 0 [.int 8, .int v4.toInt32] [] 107 (FR b, N7.2) (rI (fun v10 N9 => N9.1 = FR b ∧ (brK (v10 = 0) (Q (some (.int 0)) (FR b, N9.2)) (WP d 107 14 0 [.int 9, .int v6.toInt32] [] 107 (FR b, N9.2) (rI (fun v12 N11 => N11.1 = FR b ∧ (brK (v12 = 0) (Q (some (.int 0)) (FR b, N11.2)) (WP d 107 16 0 [.ref 18, .int v2.toInt32, .int v4.toInt32, .int v6.toInt32] [] 107 (FR b, N11.2) (rI (fun v14 N13 => N13.1 = FR b ∧ (brK (v14 < 0) (Q (some (.int 0)) (FR b, N13.2)) (Q (some (.int 1)) (FR b, N13.2)))))))))))))))))))))))))))))) (Q (some (.int 0)) (FR b, M)))))))) :
    WP (d + 1) 107 20 0 [.ref 4, .ref r1, .int x2, .int x3, u4, u5, u6, u7] [] 107 (FR b, M) Q := blk 69 ct20 h
/- StyliteOverheard$Shelf.itemAt(I)J -/
def ct21 : Nat → Bool := fun _ => false
set_option maxRecDepth 100000 in
theorem v21_0 {d : Nat} {b : Bool} {M : M2} {Q : QT} {th : Nat} {x1 : Int32} (h : brK (x1 < 0) (Q (some (.long 0)) (FR b, M)) (oK 107 th 9 (brK ((gI M th 3) ≤ x1) (Q (some (.long 0)) (FR b, M)) (oK 107 th 9 (rK (FR b th 4) (fun q1 => rdN 107 q1 (brK ((lenI M q1) ≤ x1) (Q (some (.long 0)) (FR b, M)) (oK 107 th 9 (rK (FR b th 4) (fun q2 => oK 107 q2 23 (iK x1 (ln q2) (Q (some (.long (gL M q2 (ix x1)))) (FR b, M))))))))))))) :
    WP (d + 1) 107 21 0 [.ref th, .int x1] [] 107 (FR b, M) Q := blk 18 ct21 h
/- StyliteOverheard.school(I)I -/
def ct22 : Nat → Bool := fun _ => false
set_option maxRecDepth 100000 in
theorem v22_0 {d : Nat} {b : Bool} {M : M2} {Q : QT} {x1 : Int32} (h : WP d 107 14 0 [.int 10, .int x1] [] 107 (FR b, M) (rI (fun v2 N1 => N1.1 = FR b ∧ (brK (v2 = 0) (Q (some (.int (-1))) (FR b, N1.2)) (WP d 107 23 0 [.ref 26, .int x1] [] 107 (FR b, N1.2) (rI (fun v4 N3 => N3.1 = FR b ∧ (Q (some (.int v4)) (FR b, N3.2))))))))) :
    WP (d + 1) 107 22 0 [.ref 4, .int x1] [] 107 (FR b, M) Q := blk 11 ct22 h
/- StyliteOverheard$Schools.added(I)I -/
def ct23 : Nat → Bool := fun _ => false
set_option maxRecDepth 100000 in
theorem v23_0 {d : Nat} {b : Bool} {M : M2} {Q : QT} {x1 : Int32} (h : brK ((gI M 26 0) < 5) (iK (gI M 26 0) 5 (Q (some (.int (((gI M 26 0) + 1) - 1))) (FR b, sI (sI M 27 (ix (gI M 26 0)) x1) 26 0 ((gI M 26 0) + 1)))) (Q (some (.int (-3))) (FR b, M))) :
    WP (d + 1) 107 23 0 [.ref 26, .int x1] [] 107 (FR b, M) Q := blk 22 ct23 h
/- StyliteOverheard.mend(III)I -/
def ct24 : Nat → Bool := fun _ => false
set_option maxRecDepth 100000 in
theorem v24_0 {d : Nat} {b : Bool} {M : M2} {Q : QT} {x1 : Int32} {x2 : Int32} {x3 : Int32} {u4 : Value} (h : WP d 107 25 0 [.ref 4, .int x1, .int x2] [] 107 (FR b, M) (rI (fun v2 N1 => N1.1 = FR b ∧ (brK (v2 = 0) (Q (some (.int (-1))) (FR b, N1.2)) (WP d 107 14 0 [.int x2, .int x3] [] 107 (FR b, N1.2) (rI (fun v4 N3 => N3.1 = FR b ∧ (brK (v4 = 0) (Q (some (.int (-1))) (FR b, N3.2)) (WP d 107 28 0 [.ref 4, .int x1, .int x2] [] 107 (FR b, N3.2) (rI (fun v6 N5 => N5.1 = FR b ∧ (brK (v6 = x3) (Q (some (.int v6)) (FR b, N5.2)) (WP d 107 31 0 [.ref 4, .int x1, .int x2, .int x3, U] [] 107 (FR b, N5.2) (rV (fun N7 => N7.1 = FR b ∧ (WP d 107 33 0 [.ref 35, .int x1, .int x2, .int v6, .int x3] [] 107 (FR b, N7.2) (rV (fun N8 => N8.1 = FR b ∧ (Q (some (.int v6)) (FR b, N8.2)))))))))))))))))))) :
    WP (d + 1) 107 24 0 [.ref 4, .int x1, .int x2, .int x3, u4] [] 107 (FR b, M) Q := blk 32 ct24 h
/- StyliteOverheard.isTold(II)Z -/
def ct25 : Nat → Bool := fun _ => false
set_option maxRecDepth 100000 in
theorem v25_0 {d : Nat} {b : Bool} {M : M2} {Q : QT} {x1 : Int32} {x2 : Int32} (h : brK (x2 < 0) (Q (some (.int 0)) (FR b, M)) (brK (x2 ≤ 10) (brK (6 < x2) (brK (x2 = 10) (WP d 107 26 0 [.ref 26, .int x1] [] 107 (FR b, M) (rI (fun v4 N3 => N3.1 = FR b ∧ (iK v4 2 (Q (some (.int v4)) (FR b, N3.2)))))) (WP d 107 27 0 [.ref 18, .int x1] [] 107 (FR b, M) (rI (fun v2 N1 => N1.1 = FR b ∧ (iK v2 2 (Q (some (.int v2)) (FR b, N1.2))))))) (brK (x1 = 0) (Q (some (.int 1)) (FR b, M)) (Q (some (.int 0)) (FR b, M)))) (Q (some (.int 0)) (FR b, M)))) :
    WP (d + 1) 107 25 0 [.ref 4, .int x1, .int x2] [] 107 (FR b, M) Q := blk 18 ct25 h
/- StyliteOverheard$Schools.has(I)Z -/
def ct26 : Nat → Bool := fun _ => false
set_option maxRecDepth 100000 in
theorem v26_0 {d : Nat} {b : Bool} {M : M2} {Q : QT} {x1 : Int32} (h : brK (x1 < 0) (Q (some (.int 0)) (FR b, M)) (brK ((gI M 26 0) ≤ x1) (Q (some (.int 0)) (FR b, M)) (Q (some (.int 1)) (FR b, M)))) :
    WP (d + 1) 107 26 0 [.ref 26, .int x1] [] 107 (FR b, M) Q := blk 10 ct26 h
/- StyliteOverheard$Village.has(I)Z -/
def ct27 : Nat → Bool := fun _ => false
set_option maxRecDepth 100000 in
theorem v27_0 {d : Nat} {b : Bool} {M : M2} {Q : QT} {x1 : Int32} (h : brK (x1 < 0) (Q (some (.int 0)) (FR b, M)) (brK ((gI M 18 0) ≤ x1) (Q (some (.int 0)) (FR b, M)) (Q (some (.int 1)) (FR b, M)))) :
    WP (d + 1) 107 27 0 [.ref 18, .int x1] [] 107 (FR b, M) Q := blk 10 ct27 h
/- StyliteOverheard.toldOf(II)I -/
def ct28 : Nat → Bool := fun _ => false
set_option maxRecDepth 100000 in
theorem v28_0 {d : Nat} {b : Bool} {M : M2} {Q : QT} {x1 : Int32} {x2 : Int32} (h : brK (6 < x2) (WP d 107 30 0 [.ref 4, .int x2] [] 107 (FR b, M) (rA (fun N1 => N1.1 = FR b ∧ (WP d 107 15 0 [.null, .int x1] [] 107 (FR b, N1.2) (rI (fun v4 N3 => N3.1 = FR b ∧ (Q (some (.int v4)) (FR b, N3.2)))))) (fun q2 N1 => N1.1 = FR b ∧ (WP d 107 15 0 [.ref q2, .int x1] [] 107 (FR b, N1.2) (rI (fun v6 N5 => N5.1 = FR b ∧ (Q (some (.int v6)) (FR b, N5.2)))))))) (WP d 107 29 0 [.ref 5, .int x2] [] 107 (FR b, M) (rI (fun v8 N7 => N7.1 = FR b ∧ (Q (some (.int v8)) (FR b, N7.2)))))) :
    WP (d + 1) 107 28 0 [.ref 4, .int x1, .int x2] [] 107 (FR b, M) Q := blk 10 ct28 h
/- StyliteOverheard$Him.told(I)I -/
def ct29 : Nat → Bool := fun _ => false
set_option maxRecDepth 100000 in
theorem v29_0 {d : Nat} {b : Bool} {M : M2} {Q : QT} {th : Nat} {x1 : Int32} (h : (x1 = 0 → oK 107 th 3 (Q (some (.int (gI M th 0))) (FR b, M))) ∧ (¬ x1 = 0 → (x1 = 1 → oK 107 th 3 (Q (some (.int (gI M th 1))) (FR b, M))) ∧ (¬ x1 = 1 → (x1 = 2 → oK 107 th 3 (Q (some (.int (gI M th 2))) (FR b, M))) ∧ (¬ x1 = 2 → (x1 = 3 → oK 107 th 3 (Q (some (.int (gI M th 3))) (FR b, M))) ∧ (¬ x1 = 3 → (x1 = 4 → oK 107 th 3 (Q (some (.int (gI M th 4))) (FR b, M))) ∧ (¬ x1 = 4 → (x1 = 5 → oK 107 th 3 (Q (some (.int (gI M th 5))) (FR b, M))) ∧ (¬ x1 = 5 → oK 107 th 3 (Q (some (.int (gI M th 6))) (FR b, M))))))))) :
    WP (d + 1) 107 29 0 [.ref th, .int x1] [] 107 (FR b, M) Q := blk 6 ct29 h
/- StyliteOverheard.rowOf(I)[I -/
def ct30 : Nat → Bool := fun _ => false
set_option maxRecDepth 100000 in
theorem v30_0 {d : Nat} {b : Bool} {M : M2} {Q : QT} {x1 : Int32} (h : (x1 = 7 → Q (some (.ref 19)) (FR b, M)) ∧ (¬ x1 = 7 → (x1 = 8 → Q (some (.ref 20)) (FR b, M)) ∧ (¬ x1 = 8 → (x1 = 9 → Q (some (.ref 21)) (FR b, M)) ∧ (¬ x1 = 9 → Q (some (.ref 27)) (FR b, M))))) :
    WP (d + 1) 107 30 0 [.ref 4, .int x1] [] 107 (FR b, M) Q := blk 7 ct30 h
/- StyliteOverheard.tell(III)V -/
def ct31 : Nat → Bool := fun _ => false
set_option maxRecDepth 100000 in
theorem v31_0 {d : Nat} {b : Bool} {M : M2} {Q : QT} {x1 : Int32} {x2 : Int32} {x3 : Int32} {u4 : Value} (h : brK (6 < x2) (WP d 107 30 0 [.ref 4, .int x2] [] 107 (FR b, M) (rA (fun N1 => N1.1 = FR b ∧ (brK (x1 < 0) (Q none (FR b, N1.2)) (False))) (fun q2 N1 => N1.1 = FR b ∧ (brK (x1 < 0) (Q none (FR b, N1.2)) (rdN 107 q2 (brK ((lenI N1.2 q2) ≤ x1) (Q none (FR b, N1.2)) (oK 107 q2 20 (iK x1 (ln q2) (Q none (FR b, sI N1.2 q2 (ix x1) x3)))))))))) (WP d 107 32 0 [.ref 5, .int x2, .int x3] [] 107 (FR b, M) (rV (fun N3 => N3.1 = FR b ∧ (Q none (FR b, N3.2)))))) :
    WP (d + 1) 107 31 0 [.ref 4, .int x1, .int x2, .int x3, u4] [] 107 (FR b, M) Q := blk 19 ct31 h
/- StyliteOverheard$Him.tell(II)V -/
def ct32 : Nat → Bool := fun _ => false
set_option maxRecDepth 100000 in
theorem v32_0 {d : Nat} {b : Bool} {M : M2} {Q : QT} {th : Nat} {x1 : Int32} {x2 : Int32} (h : (x1 = 0 → oK 107 th 3 (Q none (FR b, sF M th 0 x2))) ∧ (¬ x1 = 0 → (x1 = 1 → oK 107 th 3 (Q none (FR b, sF M th 1 x2))) ∧ (¬ x1 = 1 → (x1 = 2 → oK 107 th 3 (Q none (FR b, sF M th 2 x2))) ∧ (¬ x1 = 2 → (x1 = 3 → oK 107 th 3 (Q none (FR b, sF M th 3 x2))) ∧ (¬ x1 = 3 → (x1 = 4 → oK 107 th 3 (Q none (FR b, sF M th 4 x2))) ∧ (¬ x1 = 4 → (x1 = 5 → oK 107 th 3 (Q none (FR b, sF M th 5 x2))) ∧ (¬ x1 = 5 → oK 107 th 3 (Q none (FR b, sF M th 6 x2))))))))) :
    WP (d + 1) 107 32 0 [.ref th, .int x1, .int x2] [] 107 (FR b, M) Q := blk 8 ct32 h
/- StyliteOverheard$Changes.note(IIII)V -/
def ct33 : Nat → Bool := fun pc => Nat.beq pc 43
set_option maxRecDepth 100000 in
theorem v33_0 {d : Nat} {b : Bool} {M : M2} {Q : QT} {x1 : Int32} {x2 : Int32} {x3 : Int32} {x4 : Int32} (h : brK ((gI M 35 0) < 40) (WP (d + 1) 107 33 43 [.ref 35, .int x1, .int x2, .int x3, .int x4] [] 107 (FR b, M) Q) (WP d 107 34 0 [.ref 36, U] [] 107 (FR b, M) (rV (fun N1 => N1.1 = FR b ∧ (WP d 107 34 0 [.ref 37, U] [] 107 (FR b, N1.2) (rV (fun N2 => N2.1 = FR b ∧ (WP d 107 34 0 [.ref 38, U] [] 107 (FR b, N2.2) (rV (fun N3 => N3.1 = FR b ∧ (WP d 107 34 0 [.ref 39, U] [] 107 (FR b, N3.2) (rV (fun N4 => N4.1 = FR b ∧ (WP (d + 1) 107 33 43 [.ref 35, .int x1, .int x2, .int x3, .int x4] [] 107 (FR b, sI N4.2 35 0 39) Q)))))))))))))) :
    WP (d + 1) 107 33 0 [.ref 35, .int x1, .int x2, .int x3, .int x4] [] 107 (FR b, M) Q := blk 21 ct33 h
set_option maxRecDepth 100000 in
theorem v33_43 {d : Nat} {b : Bool} {M : M2} {Q : QT} {x1 : Int32} {x2 : Int32} {x3 : Int32} {x4 : Int32} (h : iK (gI M 35 0) 40 (iK (gI M 35 0) 40 (iK (gI M 35 0) 40 (iK (gI M 35 0) 40 (Q none (FR b, sI (sI (sI (sI (sI (sI M 36 (ix (gI M 35 0)) x1) 37 (ix (gI M 35 0)) x2) 38 (ix (gI M 35 0)) x3) 39 (ix (gI M 35 0)) x4) 35 0 ((gI M 35 0) + 1)) 35 1 ((gI M 35 0) + 1))))))) :
    WP (d + 1) 107 33 43 [.ref 35, .int x1, .int x2, .int x3, .int x4] [] 107 (FR b, M) Q := blk 36 ct33 h
/- StyliteOverheard$Changes.forgetFirst([I)V -/
def ct34 : Nat → Bool := fun pc => Nat.beq pc 2
set_option maxRecDepth 100000 in
theorem v34_0 {d : Nat} {b : Bool} {M : M2} {Q : QT} {r0 : Nat} {u1 : Value} (h : WP (d + 1) 107 34 2 [.ref r0, .int 1] [] 107 (FR b, M) Q) :
    WP (d + 1) 107 34 0 [.ref r0, u1] [] 107 (FR b, M) Q := blk 4 ct34 h
set_option maxRecDepth 100000 in
theorem v34_2 {d : Nat} {b : Bool} {M : M2} {Q : QT} {r0 : Nat} {x1 : Int32} (h : rdN 107 r0 (brK ((lenI M r0) ≤ x1) (Q none (FR b, M)) (rdI 107 r0 (iK x1 (lenN M r0) (oK 107 r0 20 (iK (x1 - 1) (ln r0) (WP (d + 1) 107 34 2 [.ref r0, .int (x1 + 1)] [] 107 (FR b, sI M r0 (ix (x1 - 1)) (ldX M r0 x1)) Q))))))) :
    WP (d + 1) 107 34 2 [.ref r0, .int x1] [] 107 (FR b, M) Q := blk 16 ct34 h
/- StyliteOverheard.of(II)I -/
def ct35 : Nat → Bool := fun _ => false
set_option maxRecDepth 100000 in
theorem v35_0 {d : Nat} {b : Bool} {M : M2} {Q : QT} {x1 : Int32} {x2 : Int32} (h : brK (x2 = 11) (WP d 107 27 0 [.ref 18, .int x1] [] 107 (FR b, M) (rI (fun v6 N5 => N5.1 = FR b ∧ (brK (v6 = 0) (Q (some (.int (-1))) (FR b, N5.2)) (WP d 107 15 0 [.ref 22, .int x1] [] 107 (FR b, N5.2) (rI (fun v8 N7 => N7.1 = FR b ∧ (Q (some (.int v8)) (FR b, N7.2))))))))) (WP d 107 25 0 [.ref 4, .int x1, .int x2] [] 107 (FR b, M) (rI (fun v2 N1 => N1.1 = FR b ∧ (brK (v2 = 0) (Q (some (.int (-1))) (FR b, N1.2)) (WP d 107 28 0 [.ref 4, .int x1, .int x2] [] 107 (FR b, N1.2) (rI (fun v4 N3 => N3.1 = FR b ∧ (Q (some (.int v4)) (FR b, N3.2)))))))))) :
    WP (d + 1) 107 35 0 [.ref 4, .int x1, .int x2] [] 107 (FR b, M) Q := blk 16 ct35 h
/- StyliteOverheard.feed(I)I -/
def ct36 : Nat → Bool := fun _ => false
set_option maxRecDepth 100000 in
theorem v36_0 {d : Nat} {b : Bool} {M : M2} {Q : QT} {x1 : Int32} (h : brK (x1 < 0) (Q (some (.int (-1))) (FR b, M)) (brK (x1 ≤ 255) (WP d 107 37 0 [.ref 7, .int x1] [] 107 (FR b, M) (rI (fun v2 N1 => N1.1 = FR b ∧ (Q (some (.int v2)) (FR b, N1.2))))) (Q (some (.int (-1))) (FR b, M)))) :
    WP (d + 1) 107 36 0 [.ref 4, .int x1] [] 107 (FR b, M) Q := blk 11 ct36 h
/- StyliteOverheard$Law.took(I)I -/
def ct37 : Nat → Bool := fun _ => false
set_option maxRecDepth 100000 in
theorem v37_0 {d : Nat} {b : Bool} {M : M2} {Q : QT} {x1 : Int32} (h : brK ((gI M 7 0) < 120) (iK (gI M 7 0) 120 (Q (some (.int ((gI M 7 0) + 1))) (FR b, sI (sI M 8 (ix (gI M 7 0)) x1) 7 0 ((gI M 7 0) + 1)))) (Q (some (.int (-3))) (FR b, M))) :
    WP (d + 1) 107 37 0 [.ref 7, .int x1] [] 107 (FR b, M) Q := blk 20 ct37 h
/- StyliteOverheard.law()I -/
def ct38 : Nat → Bool := fun pc => Nat.beq pc 7
set_option maxRecDepth 100000 in
theorem v38_0 {d : Nat} {b : Bool} {M : M2} {Q : QT} {u1 : Value} (h : WP d 107 39 0 [.ref 7, U, U] [] 107 (FR b, M) (rI (fun v2 N1 => WP (d + 1) 107 38 7 [.ref 4, u1] [.int v2] 107 N1 Q))) :
    WP (d + 1) 107 38 0 [.ref 4, u1] [] 107 (FR b, M) Q := blk 4 ct38 h
set_option maxRecDepth 100000 in
theorem v38_7 {d : Nat} {b : Bool} {M : M2} {Q : QT} {u0 : Value} {u1 : Value} {s0 : Int32} (h : brK (0 ≤ s0) (Q (some (.int ((-100) - s0))) (FR b, M)) (Q (some (.int 1)) (FR b, M))) :
    WP (d + 1) 107 38 7 [u0, u1] [.int s0] 107 (FR b, M) Q := blk 8 ct38 h
/- StyliteOverheard$Law.faultOfTape()I -/
def ct39 : Nat → Bool := fun _ => false
set_option maxRecDepth 100000 in
theorem v39_0 {d : Nat} {b : Bool} {M : M2} {Q : QT} {u1 : Value} {u2 : Value} (h : WP d 107 40 0 [.ref 7, U] [] 107 (FR b, M) (rI (fun v2 N1 => N1.1 = FR b ∧ (brK (v2 = 0) (Q (some (.int (gI N1.2 7 2))) (FR b, sI N1.2 7 0 0)) (Q (some (.int (-1))) (uR (uR (FR b) 7 3 (some (bif b then 9 else 13))) 7 4 (some (bif b then 13 else 9)), sI N1.2 7 0 0)))))) :
    WP (d + 1) 107 39 0 [.ref 7, u1, u2] [] 107 (FR b, M) Q := by cases b <;> exact blk 21 ct39 h
/- StyliteOverheard$Law.parsed()Z -/
def ct40 : Nat → Bool := fun pc => Nat.beq pc 14
set_option maxRecDepth 100000 in
theorem v40_0 {d : Nat} {b : Bool} {M : M2} {Q : QT} {u1 : Value} (h : oK 107 (bif b then 9 else 13) 2 (WP d 107 41 0 [.ref (bif b then 9 else 13)] [] 107 (FR b, sI M 7 2 0) (rV (fun N1 => N1.1 = FR b ∧ (WP (d + 1) 107 40 14 [.ref 7, .int 0] [] 107 (FR b, N1.2) Q))))) :
    WP (d + 1) 107 40 0 [.ref 7, u1] [] 107 (FR b, M) Q := by cases b <;> exact blk 10 ct40 h
set_option maxRecDepth 100000 in
theorem v40_14 {d : Nat} {b : Bool} {M : M2} {Q : QT} {x1 : Int32} (h : brK (60 ≤ x1) (Q (some (.int 0)) (FR b, M)) (WP d 107 42 0 [.ref 7, U] [] 107 (FR b, M) (rI (fun v2 N1 => N1.1 = FR b ∧ (brK (v2 = 0) (Q (some (.int 0)) (FR b, N1.2)) (brK ((gI N1.2 7 2) < (gI N1.2 7 0)) (WP d 107 55 0 [.ref 7, .int 59, U] [] 107 (FR b, N1.2) (rI (fun v4 N3 => N3.1 = FR b ∧ (brK (v4 = 0) (Q (some (.int 0)) (FR b, N3.2)) (WP (d + 1) 107 40 14 [.ref 7, .int (x1 + 1)] [] 107 (FR b, N3.2) Q))))) (Q (some (.int 1)) (FR b, N1.2)))))))) :
    WP (d + 1) 107 40 14 [.ref 7, .int x1] [] 107 (FR b, M) Q := blk 19 ct40 h
/- StyliteOverheard$Code.clear()V -/
def ct41 : Nat → Bool := fun _ => false
set_option maxRecDepth 100000 in
theorem v41_0 {d : Nat} {b : Bool} {M : M2} {Q : QT} {th : Nat} (h : oK 107 th 2 (oK 107 th 2 (Q none (FR b, sF (sF M th 3 0) th 4 0)))) :
    WP (d + 1) 107 41 0 [.ref th] [] 107 (FR b, M) Q := blk 8 ct41 h
/- StyliteOverheard$Law.hasLine()Z -/
def ct42 : Nat → Bool := fun _ => false
set_option maxRecDepth 100000 in
theorem v42_0 {d : Nat} {b : Bool} {M : M2} {Q : QT} {u1 : Value} (h : oK 107 (bif b then 9 else 13) 2 (WP d 107 43 0 [.ref 7, .int 0, U, U] [] 107 (FR b, M) (rI (fun v2 N1 => N1.1 = FR b ∧ (brK (v2 = 0) (Q (some (.int 0)) (FR b, N1.2)) (WP d 107 55 0 [.ref 7, .int 63, U] [] 107 (FR b, N1.2) (rI (fun v4 N3 => N3.1 = FR b ∧ (brK (v4 = 0) (oK 107 (bif b then 9 else 13) 2 (WP d 107 57 0 [.ref (bif b then 9 else 13), .int (gI M (bif b then 9 else 13) 3)] [] 107 (FR b, N3.2) (rV (fun N5 => N5.1 = FR b ∧ (Q (some (.int 1)) (FR b, N5.2)))))) (oK 107 (bif b then 9 else 13) 2 (WP d 107 43 0 [.ref 7, .int 0, U, U] [] 107 (FR b, N3.2) (rI (fun v7 N6 => N6.1 = FR b ∧ (brK (v7 = 0) (Q (some (.int 0)) (FR b, N6.2)) (oK 107 (bif b then 9 else 13) 2 (WP d 107 57 0 [.ref (bif b then 9 else 13), .int (gI N3.2 (bif b then 9 else 13) 3)] [] 107 (FR b, N6.2) (rV (fun N8 => N8.1 = FR b ∧ (Q (some (.int 1)) (FR b, N8.2)))))))))))))))))))) :
    WP (d + 1) 107 42 0 [.ref 7, u1] [] 107 (FR b, M) Q := by cases b <;> exact blk 27 ct42 h
/- StyliteOverheard$Law.hasEither(I)Z -/
def ct43 : Nat → Bool := fun pc => Nat.beq pc 8
set_option maxRecDepth 100000 in
theorem v43_0 {d : Nat} {b : Bool} {M : M2} {Q : QT} {x1 : Int32} {u2 : Value} {u3 : Value} (h : WP d 107 44 0 [.ref 7, .int x1, U, U] [] 107 (FR b, M) (rI (fun v2 N1 => N1.1 = FR b ∧ (WP (d + 1) 107 43 8 [.ref 7, .int x1, .int v2, .int 0] [] 107 (FR b, N1.2) Q)))) :
    WP (d + 1) 107 43 0 [.ref 7, .int x1, u2, u3] [] 107 (FR b, M) Q := blk 8 ct43 h
set_option maxRecDepth 100000 in
theorem v43_8 {d : Nat} {b : Bool} {M : M2} {Q : QT} {x1 : Int32} {x2 : Int32} {x3 : Int32} (h : brK (120 ≤ x3) (iK x2 2 (Q (some (.int x2)) (FR b, M))) (brK (x2 = 0) (iK x2 2 (Q (some (.int x2)) (FR b, M))) (WP d 107 55 0 [.ref 7, .int 124, U] [] 107 (FR b, M) (rI (fun v2 N1 => N1.1 = FR b ∧ (brK (v2 = 0) (iK x2 2 (Q (some (.int x2)) (FR b, N1.2))) (WP d 107 44 0 [.ref 7, .int x1, U, U] [] 107 (FR b, N1.2) (rI (fun v4 N3 => N3.1 = FR b ∧ (oK 107 (bif b then 9 else 13) 2 (WP d 107 52 0 [.ref (bif b then 9 else 13), .int 124] [] 107 (FR b, N3.2) (rV (fun N5 => N5.1 = FR b ∧ (WP (d + 1) 107 43 8 [.ref 7, .int x1, .int v4, .int (x3 + 1)] [] 107 (FR b, N5.2) Q)))))))))))))) :
    WP (d + 1) 107 43 8 [.ref 7, .int x1, .int x2, .int x3] [] 107 (FR b, M) Q := by cases b <;> exact blk 21 ct43 h
/- StyliteOverheard$Law.hasBoth(I)Z -/
def ct44 : Nat → Bool := fun pc => Nat.beq pc 8
set_option maxRecDepth 100000 in
theorem v44_0 {d : Nat} {b : Bool} {M : M2} {Q : QT} {x1 : Int32} {u2 : Value} {u3 : Value} (h : WP d 107 45 0 [.ref 7, .int x1, U, U] [] 107 (FR b, M) (rI (fun v2 N1 => N1.1 = FR b ∧ (WP (d + 1) 107 44 8 [.ref 7, .int x1, .int v2, .int 0] [] 107 (FR b, N1.2) Q)))) :
    WP (d + 1) 107 44 0 [.ref 7, .int x1, u2, u3] [] 107 (FR b, M) Q := blk 8 ct44 h
set_option maxRecDepth 100000 in
theorem v44_8 {d : Nat} {b : Bool} {M : M2} {Q : QT} {x1 : Int32} {x2 : Int32} {x3 : Int32} (h : brK (120 ≤ x3) (iK x2 2 (Q (some (.int x2)) (FR b, M))) (brK (x2 = 0) (iK x2 2 (Q (some (.int x2)) (FR b, M))) (WP d 107 55 0 [.ref 7, .int 38, U] [] 107 (FR b, M) (rI (fun v2 N1 => N1.1 = FR b ∧ (brK (v2 = 0) (iK x2 2 (Q (some (.int x2)) (FR b, N1.2))) (WP d 107 45 0 [.ref 7, .int x1, U, U] [] 107 (FR b, N1.2) (rI (fun v4 N3 => N3.1 = FR b ∧ (oK 107 (bif b then 9 else 13) 2 (WP d 107 52 0 [.ref (bif b then 9 else 13), .int 38] [] 107 (FR b, N3.2) (rV (fun N5 => N5.1 = FR b ∧ (WP (d + 1) 107 44 8 [.ref 7, .int x1, .int v4, .int (x3 + 1)] [] 107 (FR b, N5.2) Q)))))))))))))) :
    WP (d + 1) 107 44 8 [.ref 7, .int x1, .int x2, .int x3] [] 107 (FR b, M) Q := by cases b <;> exact blk 21 ct44 h
/- StyliteOverheard$Law.hasCompared(I)Z -/
def ct45 : Nat → Bool := fun _ => false
set_option maxRecDepth 100000 in
theorem v45_0 {d : Nat} {b : Bool} {M : M2} {Q : QT} {x1 : Int32} {u2 : Value} {u3 : Value} (h : WP d 107 46 0 [.ref 7, .int x1, U, U, U] [] 107 (FR b, M) (rI (fun v2 N1 => N1.1 = FR b ∧ (brK (v2 = 0) (Q (some (.int 0)) (FR b, N1.2)) (WP d 107 56 0 [.ref 7, .int 60, .int 61, .int 62, U] [] 107 (FR b, N1.2) (rI (fun v4 N3 => N3.1 = FR b ∧ (brK (v4 = 0) (Q (some (.int 1)) (FR b, N3.2)) (WP d 107 46 0 [.ref 7, .int x1, U, U, U] [] 107 (FR b, N3.2) (rI (fun v6 N5 => N5.1 = FR b ∧ (oK 107 (bif b then 9 else 13) 2 (WP d 107 52 0 [.ref (bif b then 9 else 13), .int v4] [] 107 (FR b, N5.2) (rV (fun N7 => N7.1 = FR b ∧ (iK v6 2 (Q (some (.int v6)) (FR b, N7.2)))))))))))))))))) :
    WP (d + 1) 107 45 0 [.ref 7, .int x1, u2, u3] [] 107 (FR b, M) Q := by cases b <;> exact blk 23 ct45 h
/- StyliteOverheard$Law.hasSum(I)Z -/
def ct46 : Nat → Bool := fun pc => Nat.beq pc 28
set_option maxRecDepth 100000 in
theorem v46_0 {d : Nat} {b : Bool} {M : M2} {Q : QT} {x1 : Int32} {u2 : Value} {u3 : Value} {u4 : Value} (h : WP d 107 47 0 [.ref 7, .int x1, U, U, U] [] 107 (FR b, M) (rI (fun v2 N1 => N1.1 = FR b ∧ (brK (v2 = 0) (WP (d + 1) 107 46 28 [.ref 7, .int x1, .int v2, .int 0, .int 0] [] 107 (FR b, N1.2) Q) (WP d 107 56 0 [.ref 7, .int 43, .int 45, .int 45, U] [] 107 (FR b, N1.2) (rI (fun v4 N3 => N3.1 = FR b ∧ (WP (d + 1) 107 46 28 [.ref 7, .int x1, .int v2, .int v4, .int 0] [] 107 (FR b, N3.2) Q)))))))) :
    WP (d + 1) 107 46 0 [.ref 7, .int x1, u2, u3, u4] [] 107 (FR b, M) Q := blk 17 ct46 h
set_option maxRecDepth 100000 in
theorem v46_28 {d : Nat} {b : Bool} {M : M2} {Q : QT} {x1 : Int32} {x2 : Int32} {x3 : Int32} {x4 : Int32} (h : brK (120 ≤ x4) (iK x2 2 (Q (some (.int x2)) (FR b, M))) (brK (x3 = 0) (iK x2 2 (Q (some (.int x2)) (FR b, M))) (WP d 107 47 0 [.ref 7, .int x1, U, U, U] [] 107 (FR b, M) (rI (fun v2 N1 => N1.1 = FR b ∧ (oK 107 (bif b then 9 else 13) 2 (WP d 107 52 0 [.ref (bif b then 9 else 13), .int x3] [] 107 (FR b, N1.2) (rV (fun N3 => N3.1 = FR b ∧ (brK (v2 = 0) (WP (d + 1) 107 46 28 [.ref 7, .int x1, .int v2, .int 0, .int (x4 + 1)] [] 107 (FR b, N3.2) Q) (WP d 107 56 0 [.ref 7, .int 43, .int 45, .int 45, U] [] 107 (FR b, N3.2) (rI (fun v5 N4 => N4.1 = FR b ∧ (WP (d + 1) 107 46 28 [.ref 7, .int x1, .int v2, .int v5, .int (x4 + 1)] [] 107 (FR b, N4.2) Q)))))))))))))) :
    WP (d + 1) 107 46 28 [.ref 7, .int x1, .int x2, .int x3, .int x4] [] 107 (FR b, M) Q := by cases b <;> exact blk 26 ct46 h
/- StyliteOverheard$Law.hasProduct(I)Z -/
def ct47 : Nat → Bool := fun pc => Nat.beq pc 28
set_option maxRecDepth 100000 in
theorem v47_0 {d : Nat} {b : Bool} {M : M2} {Q : QT} {x1 : Int32} {u2 : Value} {u3 : Value} {u4 : Value} (h : WP d 107 48 0 [.ref 7, .int x1, U] [] 107 (FR b, M) (rI (fun v2 N1 => N1.1 = FR b ∧ (brK (v2 = 0) (WP (d + 1) 107 47 28 [.ref 7, .int x1, .int v2, .int 0, .int 0] [] 107 (FR b, N1.2) Q) (WP d 107 56 0 [.ref 7, .int 42, .int 47, .int 37, U] [] 107 (FR b, N1.2) (rI (fun v4 N3 => N3.1 = FR b ∧ (WP (d + 1) 107 47 28 [.ref 7, .int x1, .int v2, .int v4, .int 0] [] 107 (FR b, N3.2) Q)))))))) :
    WP (d + 1) 107 47 0 [.ref 7, .int x1, u2, u3, u4] [] 107 (FR b, M) Q := blk 17 ct47 h
set_option maxRecDepth 100000 in
theorem v47_28 {d : Nat} {b : Bool} {M : M2} {Q : QT} {x1 : Int32} {x2 : Int32} {x3 : Int32} {x4 : Int32} (h : brK (120 ≤ x4) (iK x2 2 (Q (some (.int x2)) (FR b, M))) (brK (x3 = 0) (iK x2 2 (Q (some (.int x2)) (FR b, M))) (WP d 107 48 0 [.ref 7, .int x1, U] [] 107 (FR b, M) (rI (fun v2 N1 => N1.1 = FR b ∧ (oK 107 (bif b then 9 else 13) 2 (WP d 107 52 0 [.ref (bif b then 9 else 13), .int x3] [] 107 (FR b, N1.2) (rV (fun N3 => N3.1 = FR b ∧ (brK (v2 = 0) (WP (d + 1) 107 47 28 [.ref 7, .int x1, .int v2, .int 0, .int (x4 + 1)] [] 107 (FR b, N3.2) Q) (WP d 107 56 0 [.ref 7, .int 42, .int 47, .int 37, U] [] 107 (FR b, N3.2) (rI (fun v5 N4 => N4.1 = FR b ∧ (WP (d + 1) 107 47 28 [.ref 7, .int x1, .int v2, .int v5, .int (x4 + 1)] [] 107 (FR b, N4.2) Q)))))))))))))) :
    WP (d + 1) 107 47 28 [.ref 7, .int x1, .int x2, .int x3, .int x4] [] 107 (FR b, M) Q := by cases b <;> exact blk 26 ct47 h
/- StyliteOverheard$Law.hasOperand(I)Z -/
def ct48 : Nat → Bool := fun _ => false
set_option maxRecDepth 100000 in
theorem v48_0 {d : Nat} {b : Bool} {M : M2} {Q : QT} {x1 : Int32} {u2 : Value} (h : WP d 107 49 0 [.ref 7] [] 107 (FR b, M) (rI (fun v2 N1 => N1.1 = FR b ∧ (WP d 107 50 0 [.int v2] [] 107 (FR b, N1.2) (rI (fun v4 N3 => N3.1 = FR b ∧ (brK (v4 = 0) (WP d 107 53 0 [.int v2] [] 107 (FR b, N3.2) (rI (fun v6 N5 => N5.1 = FR b ∧ (brK (v6 = 0) (brK (x1 < 6) (WP d 107 54 0 [.ref 7, .int v2, .int (x1 + 1), U] [] 107 (FR b, N5.2) (rI (fun v8 N7 => N7.1 = FR b ∧ (iK v8 2 (Q (some (.int v8)) (FR b, N7.2)))))) (Q (some (.int 0)) (FR b, N5.2))) (oK 107 (bif b then 9 else 13) 2 (WP d 107 52 0 [.ref (bif b then 9 else 13), .int v2] [] 107 (FR b, sI N5.2 7 2 ((gI N5.2 7 2) + 1)) (rV (fun N9 => N9.1 = FR b ∧ (Q (some (.int 1)) (FR b, N9.2)))))))))) (WP d 107 51 0 [.ref 7, U, U] [] 107 (FR b, N3.2) (rV (fun N10 => N10.1 = FR b ∧ (Q (some (.int 1)) (FR b, N10.2)))))))))))) :
    WP (d + 1) 107 48 0 [.ref 7, .int x1, u2] [] 107 (FR b, M) Q := by cases b <;> exact blk 22 ct48 h
/- StyliteOverheard$Law.byteHere()I -/
def ct49 : Nat → Bool := fun _ => false
set_option maxRecDepth 100000 in
theorem v49_0 {d : Nat} {b : Bool} {M : M2} {Q : QT}  (h : brK ((gI M 7 2) < 0) (Q (some (.int (-1))) (FR b, M)) (brK ((gI M 7 0) ≤ (gI M 7 2)) (Q (some (.int (-1))) (FR b, M)) (brK (120 ≤ (gI M 7 2)) (Q (some (.int (-1))) (FR b, M)) (iK (gI M 7 2) 120 (Q (some (.int (gI M 8 (ix (gI M 7 2))))) (FR b, M)))))) :
    WP (d + 1) 107 49 0 [.ref 7] [] 107 (FR b, M) Q := blk 20 ct49 h
/- StyliteOverheard$Law.isDigit(I)Z -/
def ct50 : Nat → Bool := fun _ => false
set_option maxRecDepth 100000 in
theorem v50_0 {d : Nat} {b : Bool} {M : M2} {Q : QT} {x0 : Int32} (h : brK (x0 < 48) (Q (some (.int 0)) (FR b, M)) (brK (57 < x0) (Q (some (.int 0)) (FR b, M)) (Q (some (.int 1)) (FR b, M)))) :
    WP (d + 1) 107 50 0 [.int x0] [] 107 (FR b, M) Q := blk 10 ct50 h
/- StyliteOverheard$Law.addNumber()V -/
def ct51 : Nat → Bool := fun pc => Nat.beq pc 4
set_option maxRecDepth 100000 in
theorem v51_0 {d : Nat} {b : Bool} {M : M2} {Q : QT} {u1 : Value} {u2 : Value} (h : WP (d + 1) 107 51 4 [.ref 7, .int 0, .int 0] [] 107 (FR b, M) Q) :
    WP (d + 1) 107 51 0 [.ref 7, u1, u2] [] 107 (FR b, M) Q := blk 6 ct51 h
set_option maxRecDepth 100000 in
theorem v51_4 {d : Nat} {b : Bool} {M : M2} {Q : QT} {x1 : Int32} {x2 : Int32} (h : brK (4 ≤ x2) (oK 107 (bif b then 9 else 13) 2 (WP d 107 52 0 [.ref (bif b then 9 else 13), .int (1000 + x1)] [] 107 (FR b, M) (rV (fun N1 => N1.1 = FR b ∧ (Q none (FR b, N1.2)))))) (WP d 107 49 0 [.ref 7] [] 107 (FR b, M) (rI (fun v3 N2 => N2.1 = FR b ∧ (WP d 107 50 0 [.int v3] [] 107 (FR b, N2.2) (rI (fun v5 N4 => N4.1 = FR b ∧ (brK (v5 = 0) (oK 107 (bif b then 9 else 13) 2 (WP d 107 52 0 [.ref (bif b then 9 else 13), .int (1000 + x1)] [] 107 (FR b, N4.2) (rV (fun N6 => N6.1 = FR b ∧ (Q none (FR b, N6.2)))))) (WP d 107 49 0 [.ref 7] [] 107 (FR b, N4.2) (rI (fun v8 N7 => N7.1 = FR b ∧ (WP (d + 1) 107 51 4 [.ref 7, .int (((x1 * 10) + v8) - 48), .int (x2 + 1)] [] 107 (FR b, sI N7.2 7 2 ((gI N7.2 7 2) + 1)) Q)))))))))))) :
    WP (d + 1) 107 51 4 [.ref 7, .int x1, .int x2] [] 107 (FR b, M) Q := by cases b <;> exact blk 26 ct51 h
/- StyliteOverheard$Code.add(I)V -/
def ct52 : Nat → Bool := fun _ => false
set_option maxRecDepth 100000 in
theorem v52_0 {d : Nat} {b : Bool} {M : M2} {Q : QT} {th : Nat} {x1 : Int32} (h : oK 107 th 2 (oK 107 th 2 (rK (FR b th 0) (fun q1 => rdN 107 q1 (brK ((lenI M q1) ≤ (gI M th 3)) (Q none (FR b, M)) (oK 107 th 2 (rK (FR b th 0) (fun q2 => oK 107 th 2 (oK 107 q2 20 (iK (gI M th 3) (ln q2) (oK 107 th 2 (oK 107 th 2 (Q none (FR b, sF (sI M q2 (ix (gI M th 3)) x1) th 3 ((gI (sI M q2 (ix (gI M th 3)) x1) th 3) + 1))))))))))))))) :
    WP (d + 1) 107 52 0 [.ref th, .int x1] [] 107 (FR b, M) Q := blk 20 ct52 h
/- StyliteOverheard$Law.isName(I)Z -/
def ct53 : Nat → Bool := fun _ => false
set_option maxRecDepth 100000 in
theorem v53_0 {d : Nat} {b : Bool} {M : M2} {Q : QT} {x0 : Int32} (h : brK (x0 = 109) (Q (some (.int 1)) (FR b, M)) (brK (x0 = 103) (Q (some (.int 1)) (FR b, M)) (brK (x0 = 108) (Q (some (.int 1)) (FR b, M)) (brK (x0 = 104) (Q (some (.int 1)) (FR b, M)) (brK (x0 = 114) (Q (some (.int 1)) (FR b, M)) (brK (x0 = 116) (Q (some (.int 1)) (FR b, M)) (Q (some (.int 0)) (FR b, M)))))))) :
    WP (d + 1) 107 53 0 [.int x0] [] 107 (FR b, M) Q := blk 22 ct53 h
/- StyliteOverheard$Law.hasNested(II)Z -/
def ct54 : Nat → Bool := fun pc => Nat.beq pc 20
set_option maxRecDepth 100000 in
theorem v54_0 {d : Nat} {b : Bool} {M : M2} {Q : QT} {x1 : Int32} {x2 : Int32} {u3 : Value} (h : brK (x1 = 40) (WP (d + 1) 107 54 20 [.ref 7, .int x1, .int x2, u3] [] 107 (FR b, M) Q) (brK (x1 = 33) (WP (d + 1) 107 54 20 [.ref 7, .int x1, .int x2, u3] [] 107 (FR b, M) Q) (brK (x1 = 45) (WP (d + 1) 107 54 20 [.ref 7, .int x1, .int x2, u3] [] 107 (FR b, M) Q) (Q (some (.int 0)) (FR b, M))))) :
    WP (d + 1) 107 54 0 [.ref 7, .int x1, .int x2, u3] [] 107 (FR b, M) Q := blk 12 ct54 h
set_option maxRecDepth 100000 in
theorem v54_20 {d : Nat} {b : Bool} {M : M2} {Q : QT} {x1 : Int32} {x2 : Int32} {u3 : Value} (h : brK (x1 = 40) (WP d 107 43 0 [.ref 7, .int x2, U, U] [] 107 (FR b, sI M 7 2 ((gI M 7 2) + 1)) (rI (fun v6 N5 => N5.1 = FR b ∧ (brK (v6 = 0) (Q (some (.int 0)) (FR b, N5.2)) (WP d 107 55 0 [.ref 7, .int 41, U] [] 107 (FR b, N5.2) (rI (fun v8 N7 => N7.1 = FR b ∧ (brK (v8 = 0) (Q (some (.int 0)) (FR b, N7.2)) (Q (some (.int 1)) (FR b, N7.2)))))))))) (WP d 107 48 0 [.ref 7, .int x2, U] [] 107 (FR b, sI M 7 2 ((gI M 7 2) + 1)) (rI (fun v2 N1 => N1.1 = FR b ∧ (brK (x1 = 33) (oK 107 (bif b then 9 else 13) 2 (WP d 107 52 0 [.ref (bif b then 9 else 13), .int x1] [] 107 (FR b, N1.2) (rV (fun N4 => N4.1 = FR b ∧ (iK v2 2 (Q (some (.int v2)) (FR b, N4.2))))))) (oK 107 (bif b then 9 else 13) 2 (WP d 107 52 0 [.ref (bif b then 9 else 13), .int 126] [] 107 (FR b, N1.2) (rV (fun N3 => N3.1 = FR b ∧ (iK v2 2 (Q (some (.int v2)) (FR b, N3.2)))))))))))) :
    WP (d + 1) 107 54 20 [.ref 7, .int x1, .int x2, u3] [] 107 (FR b, M) Q := by cases b <;> exact blk 24 ct54 h
/- StyliteOverheard$Law.hasSeen(I)Z -/
def ct55 : Nat → Bool := fun _ => false
set_option maxRecDepth 100000 in
theorem v55_0 {d : Nat} {b : Bool} {M : M2} {Q : QT} {x1 : Int32} {u2 : Value} (h : WP d 107 49 0 [.ref 7] [] 107 (FR b, M) (rI (fun v2 N1 => N1.1 = FR b ∧ (brK (v2 = x1) (brK ((1 : Int32) = 0) (Q (some (.int 1)) (FR b, N1.2)) (Q (some (.int 1)) (FR b, sI N1.2 7 2 ((gI N1.2 7 2) + 1)))) (brK ((0 : Int32) = 0) (Q (some (.int 0)) (FR b, N1.2)) (Q (some (.int 0)) (FR b, sI N1.2 7 2 ((gI N1.2 7 2) + 1)))))))) :
    WP (d + 1) 107 55 0 [.ref 7, .int x1, u2] [] 107 (FR b, M) Q := blk 18 ct55 h
/- StyliteOverheard$Law.signSeen(III)I -/
def ct56 : Nat → Bool := fun _ => false
set_option maxRecDepth 100000 in
theorem v56_0 {d : Nat} {b : Bool} {M : M2} {Q : QT} {x1 : Int32} {x2 : Int32} {x3 : Int32} {u4 : Value} (h : WP d 107 49 0 [.ref 7] [] 107 (FR b, M) (rI (fun v2 N1 => N1.1 = FR b ∧ (brK (v2 = x1) (Q (some (.int v2)) (FR b, sI N1.2 7 2 ((gI N1.2 7 2) + 1))) (brK (v2 = x2) (Q (some (.int v2)) (FR b, sI N1.2 7 2 ((gI N1.2 7 2) + 1))) (brK (v2 = x3) (Q (some (.int v2)) (FR b, sI N1.2 7 2 ((gI N1.2 7 2) + 1))) (Q (some (.int 0)) (FR b, N1.2)))))))) :
    WP (d + 1) 107 56 0 [.ref 7, .int x1, .int x2, .int x3, u4] [] 107 (FR b, M) Q := blk 21 ct56 h
/- StyliteOverheard$Code.endLine(I)V -/
def ct57 : Nat → Bool := fun _ => false
set_option maxRecDepth 100000 in
theorem v57_0 {d : Nat} {b : Bool} {M : M2} {Q : QT} {th : Nat} {x1 : Int32} (h : oK 107 th 2 (oK 107 th 2 (rK (FR b th 1) (fun q1 => rdN 107 q1 (brK ((lenI M q1) ≤ (gI M th 4)) (Q none (FR b, M)) (oK 107 th 2 (oK 107 th 2 (rK (FR b th 2) (fun q2 => rdN 107 q2 (brK ((lenI M q2) ≤ (gI M th 4)) (Q none (FR b, M)) (oK 107 th 2 (rK (FR b th 1) (fun q3 => oK 107 th 2 (oK 107 q3 20 (iK (gI M th 4) (ln q3) (oK 107 th 2 (rK (FR b th 2) (fun q4 => oK 107 th 2 (oK 107 th 2 (oK 107 q4 20 (iK (gI (sI M q3 (ix (gI M th 4)) x1) th 4) (ln q4) (oK 107 th 2 (oK 107 th 2 (Q none (FR b, sF (sI (sI M q3 (ix (gI M th 4)) x1) q4 (ix (gI (sI M q3 (ix (gI M th 4)) x1) th 4)) (gI (sI M q3 (ix (gI M th 4)) x1) th 3)) th 4 ((gI (sI (sI M q3 (ix (gI M th 4)) x1) q4 (ix (gI (sI M q3 (ix (gI M th 4)) x1) th 4)) (gI (sI M q3 (ix (gI M th 4)) x1) th 3)) th 4) + 1)))))))))))))))))))))))))) :
    WP (d + 1) 107 57 0 [.ref th, .int x1] [] 107 (FR b, M) Q := blk 33 ct57 h
/- StyliteOverheard.thing(I)I -/
def ct58 : Nat → Bool := fun _ => false
set_option maxRecDepth 100000 in
theorem v58_0 {d : Nat} {b : Bool} {M : M2} {Q : QT} {x1 : Int32} (h : WP d 107 59 0 [.int x1] [] 107 (FR b, M) (rI (fun v2 N1 => N1.1 = FR b ∧ (brK (v2 = 0) (Q (some (.int (-1))) (FR b, N1.2)) (WP d 107 60 0 [.ref 7, .ref 5, .int x1, U, U, U] [] 107 (FR b, N1.2) (rI (fun v4 N3 => N3.1 = FR b ∧ (Q (some (.int v4)) (FR b, N3.2))))))))) :
    WP (d + 1) 107 58 0 [.ref 4, .int x1] [] 107 (FR b, M) Q := blk 12 ct58 h
/- StyliteOverheard.isRemark(I)Z -/
def ct59 : Nat → Bool := fun _ => false
set_option maxRecDepth 100000 in
theorem v59_0 {d : Nat} {b : Bool} {M : M2} {Q : QT} {x0 : Int32} (h : brK (x0 < 0) (Q (some (.int 0)) (FR b, M)) (brK (10 ≤ x0) (Q (some (.int 0)) (FR b, M)) (Q (some (.int 1)) (FR b, M)))) :
    WP (d + 1) 107 59 0 [.int x0] [] 107 (FR b, M) Q := blk 9 ct59 h
/- StyliteOverheard$Law.saidBy(LStyliteOverheard$Him;I)I -/
def ct60 : Nat → Bool := fun pc => Nat.beq pc 37 || Nat.beq pc 86
set_option maxRecDepth 100000 in
theorem v60_0 {d : Nat} {b : Bool} {M : M2} {Q : QT} {r1 : Nat} {x2 : Int32} {u3 : Value} {u4 : Value} {u5 : Value} (h : oK 107 (bif b then 13 else 9) 2 (brK ((gI M (bif b then 13 else 9) 4) = 0) (oK 107 r1 3 (oK 107 r1 3 (oK 107 r1 3 (Q (some (.int (((((gI M r1 0) + (3 * x2)) + (gI M r1 1)) + (gI M r1 2)) &&& 15))) (FR b, M))))) (WP (d + 1) 107 60 37 [.ref 7, .ref r1, .int x2, .int 0, .int 0, u5] [] 107 (FR b, M) Q))) :
    WP (d + 1) 107 60 0 [.ref 7, .ref r1, .int x2, u3, u4, u5] [] 107 (FR b, M) Q := by cases b <;> exact blk 20 ct60 h
set_option maxRecDepth 100000 in
theorem v60_37 {d : Nat} {b : Bool} {M : M2} {Q : QT} {r1 : Nat} {x2 : Int32} {x3 : Int32} {x4 : Int32} {u5 : Value} (h : oK 107 (bif b then 13 else 9) 2 (brK ((gI M (bif b then 13 else 9) 4) ≤ x4) (Q (some (.int 0)) (FR b, M)) (brK (60 ≤ x4) (Q (some (.int 0)) (FR b, M)) (oK 107 (bif b then 13 else 9) 2 (rK (FR b (bif b then 13 else 9) 1) (fun q1 => rdI 107 q1 (iK x4 (lenN M q1) (brK ((ldX M q1 x4) = x3) (WP (d + 1) 107 60 86 [.ref 7, .ref r1, .int x2, .int x3, .int x4, .int (ldX M q1 x4)] [] 107 (FR b, M) Q) (WP d 107 61 0 [.ref 7, .int x3, .int (ldX M q1 x4), .ref r1, .int x2, U, U, U, U] [] 107 (FR b, M) (rI (fun v3 N2 => N2.1 = FR b ∧ (brK (v3 = 0) (oK 107 (bif b then 13 else 9) 2 (rK (FR b (bif b then 13 else 9) 2) (fun q4 => rdI 107 q4 (iK x4 (lenN N2.2 q4) (WP (d + 1) 107 60 37 [.ref 7, .ref r1, .int x2, .int (ldX N2.2 q4 x4), .int (x4 + 1), .int (ldX M q1 x4)] [] 107 (FR b, N2.2) Q))))) (WP (d + 1) 107 60 86 [.ref 7, .ref r1, .int x2, .int x3, .int x4, .int (ldX M q1 x4)] [] 107 (FR b, N2.2) Q))))))))))))) :
    WP (d + 1) 107 60 37 [.ref 7, .ref r1, .int x2, .int x3, .int x4, u5] [] 107 (FR b, M) Q := by cases b <;> exact blk 34 ct60 h
set_option maxRecDepth 100000 in
theorem v60_86 {d : Nat} {b : Bool} {M : M2} {Q : QT} {r1 : Nat} {x2 : Int32} {u3 : Value} {x4 : Int32} {x5 : Int32} (h : oK 107 (bif b then 13 else 9) 2 (rK (FR b (bif b then 13 else 9) 2) (fun q1 => rdI 107 q1 (iK x4 (lenN M q1) (WP d 107 61 0 [.ref 7, .int x5, .int (ldX M q1 x4), .ref r1, .int x2, U, U, U, U] [] 107 (FR b, M) (rI (fun v3 N2 => N2.1 = FR b ∧ (Q (some (.int (v3 &&& 15))) (FR b, N2.2))))))))) :
    WP (d + 1) 107 60 86 [.ref 7, .ref r1, .int x2, u3, .int x4, .int x5] [] 107 (FR b, M) Q := by cases b <;> exact blk 14 ct60 h
/- StyliteOverheard$Law.worked(IILStyliteOverheard$Him;I)I -/
def ct61 : Nat → Bool := fun pc => Nat.beq pc 6 || Nat.beq pc 36 || Nat.beq pc 52 || Nat.beq pc 99 || Nat.beq pc 113 || Nat.beq pc 167 || Nat.beq pc 178 || Nat.beq pc 188 || Nat.beq pc 204 || Nat.beq pc 208 || Nat.beq pc 214
set_option maxRecDepth 100000 in
theorem v61_0 {d : Nat} {b : Bool} {M : M2} {Q : QT} {x1 : Int32} {x2 : Int32} {r3 : Nat} {x4 : Int32} {u5 : Value} {u6 : Value} {u7 : Value} {u8 : Value} (h : WP (d + 1) 107 61 6 [.ref 7, .int x1, .int x2, .ref r3, .int x4, .int 0, .int x1, u7, u8] [] 107 (FR b, M) Q) :
    WP (d + 1) 107 61 0 [.ref 7, .int x1, .int x2, .ref r3, .int x4, u5, u6, u7, u8] [] 107 (FR b, M) Q := blk 6 ct61 h
set_option maxRecDepth 100000 in
theorem v61_6 {d : Nat} {b : Bool} {M : M2} {Q : QT} {u1 : Value} {x2 : Int32} {r3 : Nat} {x4 : Int32} {x5 : Int32} {x6 : Int32} {u7 : Value} {u8 : Value} (h : brK (x2 ≤ x6) (WP (d + 1) 107 61 214 [.ref 7, u1, .int x2, .ref r3, .int x4, .int x5, .int x6, u7, u8] [] 107 (FR b, M) Q) (brK (x6 < 0) (WP (d + 1) 107 61 214 [.ref 7, u1, .int x2, .ref r3, .int x4, .int x5, .int x6, u7, u8] [] 107 (FR b, M) Q) (brK (120 ≤ x6) (WP (d + 1) 107 61 214 [.ref 7, u1, .int x2, .ref r3, .int x4, .int x5, .int x6, u7, u8] [] 107 (FR b, M) Q) (oK 107 (bif b then 13 else 9) 2 (rK (FR b (bif b then 13 else 9) 0) (fun q1 => rdI 107 q1 (iK x6 (lenN M q1) (WP (d + 1) 107 61 36 [.ref 7, u1, .int x2, .ref r3, .int x4, .int x5, .int x6, .int (ldX M q1 x6), u8] [] 107 (FR b, M) Q)))))))) :
    WP (d + 1) 107 61 6 [.ref 7, u1, .int x2, .ref r3, .int x4, .int x5, .int x6, u7, u8] [] 107 (FR b, M) Q := by cases b <;> exact blk 16 ct61 h
set_option maxRecDepth 100000 in
theorem v61_36 {d : Nat} {b : Bool} {M : M2} {Q : QT} {u1 : Value} {x2 : Int32} {r3 : Nat} {x4 : Int32} {x5 : Int32} {x6 : Int32} {x7 : Int32} {u8 : Value} (h : brK (1000 ≤ x7) (WP (d + 1) 107 61 52 [.ref 7, u1, .int x2, .ref r3, .int x4, .int x5, .int x6, .int x7, u8] [] 107 (FR b, M) Q) (WP d 107 53 0 [.int x7] [] 107 (FR b, M) (rI (fun v2 N1 => N1.1 = FR b ∧ (brK (v2 = 0) (WP (d + 1) 107 61 99 [.ref 7, u1, .int x2, .ref r3, .int x4, .int x5, .int x6, .int x7, u8] [] 107 (FR b, N1.2) Q) (WP (d + 1) 107 61 52 [.ref 7, u1, .int x2, .ref r3, .int x4, .int x5, .int x6, .int x7, u8] [] 107 (FR b, N1.2) Q)))))) :
    WP (d + 1) 107 61 36 [.ref 7, u1, .int x2, .ref r3, .int x4, .int x5, .int x6, .int x7, u8] [] 107 (FR b, M) Q := blk 8 ct61 h
set_option maxRecDepth 100000 in
theorem v61_52 {d : Nat} {b : Bool} {M : M2} {Q : QT} {u1 : Value} {x2 : Int32} {r3 : Nat} {x4 : Int32} {x5 : Int32} {x6 : Int32} {x7 : Int32} {u8 : Value} (h : brK (x5 < 120) (brK (x7 < 1000) (WP d 107 62 0 [.int x7, .ref r3, .int x4] [] 107 (FR b, M) (rI (fun v2 N1 => N1.1 = FR b ∧ (iK x5 120 (WP (d + 1) 107 61 208 [.ref 7, u1, .int x2, .ref r3, .int x4, .int (x5 + 1), .int x6, .int x7, u8] [] 107 (FR b, sI N1.2 17 (ix x5) v2) Q))))) (iK x5 120 (WP (d + 1) 107 61 208 [.ref 7, u1, .int x2, .ref r3, .int x4, .int (x5 + 1), .int x6, .int x7, u8] [] 107 (FR b, sI M 17 (ix x5) (x7 - 1000)) Q))) (Q (some (.int 0)) (FR b, M))) :
    WP (d + 1) 107 61 52 [.ref 7, u1, .int x2, .ref r3, .int x4, .int x5, .int x6, .int x7, u8] [] 107 (FR b, M) Q := blk 18 ct61 h
set_option maxRecDepth 100000 in
theorem v61_99 {d : Nat} {b : Bool} {M : M2} {Q : QT} {u1 : Value} {x2 : Int32} {r3 : Nat} {x4 : Int32} {x5 : Int32} {x6 : Int32} {x7 : Int32} {u8 : Value} (h : brK (x7 = 33) (WP (d + 1) 107 61 113 [.ref 7, u1, .int x2, .ref r3, .int x4, .int x5, .int x6, .int x7, u8] [] 107 (FR b, M) Q) (brK (x7 = 126) (WP (d + 1) 107 61 113 [.ref 7, u1, .int x2, .ref r3, .int x4, .int x5, .int x6, .int x7, u8] [] 107 (FR b, M) Q) (WP (d + 1) 107 61 167 [.ref 7, u1, .int x2, .ref r3, .int x4, .int x5, .int x6, .int x7, u8] [] 107 (FR b, M) Q))) :
    WP (d + 1) 107 61 99 [.ref 7, u1, .int x2, .ref r3, .int x4, .int x5, .int x6, .int x7, u8] [] 107 (FR b, M) Q := blk 8 ct61 h
set_option maxRecDepth 100000 in
theorem v61_113 {d : Nat} {b : Bool} {M : M2} {Q : QT} {u1 : Value} {x2 : Int32} {r3 : Nat} {x4 : Int32} {x5 : Int32} {x6 : Int32} {x7 : Int32} {u8 : Value} (h : brK (1 ≤ x5) (iK (x5 - 1) 120 (brK (x7 = 126) (iK (x5 - 1) 120 (WP (d + 1) 107 61 208 [.ref 7, u1, .int x2, .ref r3, .int x4, .int x5, .int x6, .int x7, .int (gI M 17 (ix (x5 - 1)))] [] 107 (FR b, sI M 17 (ix (x5 - 1)) (-(gI M 17 (ix (x5 - 1))))) Q)) (brK ((gI M 17 (ix (x5 - 1))) = 0) (iK (x5 - 1) 120 (WP (d + 1) 107 61 208 [.ref 7, u1, .int x2, .ref r3, .int x4, .int x5, .int x6, .int x7, .int (gI M 17 (ix (x5 - 1)))] [] 107 (FR b, sI M 17 (ix (x5 - 1)) 1) Q)) (iK (x5 - 1) 120 (WP (d + 1) 107 61 208 [.ref 7, u1, .int x2, .ref r3, .int x4, .int x5, .int x6, .int x7, .int (gI M 17 (ix (x5 - 1)))] [] 107 (FR b, sI M 17 (ix (x5 - 1)) 0) Q))))) (Q (some (.int 0)) (FR b, M))) :
    WP (d + 1) 107 61 113 [.ref 7, u1, .int x2, .ref r3, .int x4, .int x5, .int x6, .int x7, u8] [] 107 (FR b, M) Q := blk 26 ct61 h
set_option maxRecDepth 100000 in
theorem v61_167 {d : Nat} {b : Bool} {M : M2} {Q : QT} {u1 : Value} {x2 : Int32} {r3 : Nat} {x4 : Int32} {x5 : Int32} {x6 : Int32} {x7 : Int32} {u8 : Value} (h : brK (2 ≤ x5) (WP (d + 1) 107 61 178 [.ref 7, u1, .int x2, .ref r3, .int x4, .int (x5 + (-1)), .int x6, .int x7, u8] [] 107 (FR b, M) Q) (Q (some (.int 0)) (FR b, M))) :
    WP (d + 1) 107 61 167 [.ref 7, u1, .int x2, .ref r3, .int x4, .int x5, .int x6, .int x7, u8] [] 107 (FR b, M) Q := blk 6 ct61 h
set_option maxRecDepth 100000 in
theorem v61_178 {d : Nat} {b : Bool} {M : M2} {Q : QT} {u1 : Value} {x2 : Int32} {r3 : Nat} {x4 : Int32} {x5 : Int32} {x6 : Int32} {x7 : Int32} {u8 : Value} (h : WP (d + 1) 107 61 188 [.ref 7, u1, .int x2, .ref r3, .int x4, .int x5, .int x6, .int x7, u8] [.int x7, .int (x5 - 1), .ref 17] 107 (FR b, M) Q) :
    WP (d + 1) 107 61 178 [.ref 7, u1, .int x2, .ref r3, .int x4, .int x5, .int x6, .int x7, u8] [] 107 (FR b, M) Q := blk 8 ct61 h
set_option maxRecDepth 100000 in
theorem v61_188 {d : Nat} {b : Bool} {M : M2} {Q : QT} {u1 : Value} {x2 : Int32} {r3 : Nat} {x4 : Int32} {x5 : Int32} {x6 : Int32} {u7 : Value} {u8 : Value} {s0 : Int32} {s1 : Int32} (h : iK (x5 - 1) 120 (iK x5 120 (WP (d + 1) 107 61 204 [.ref 7, u1, .int x2, .ref r3, .int x4, .int x5, .int x6, u7, u8] [.int (gI M 17 (ix x5)), .int (gI M 17 (ix (x5 - 1))), .int s0, .int s1, .ref 17] 107 (FR b, M) Q))) :
    WP (d + 1) 107 61 188 [.ref 7, u1, .int x2, .ref r3, .int x4, .int x5, .int x6, u7, u8] [.int s0, .int s1, .ref 17] 107 (FR b, M) Q := blk 12 ct61 h
set_option maxRecDepth 100000 in
theorem v61_204 {d : Nat} {b : Bool} {M : M2} {Q : QT} {u1 : Value} {x2 : Int32} {r3 : Nat} {x4 : Int32} {x5 : Int32} {x6 : Int32} {u7 : Value} {u8 : Value} {s0 : Int32} {s1 : Int32} {s2 : Int32} {s3 : Int32} (h : WP d 107 63 0 [.int s2, .int s1, .int s0] [] 107 (FR b, M) (rI (fun v2 N1 => N1.1 = FR b ∧ (iK s3 120 (WP (d + 1) 107 61 208 [.ref 7, u1, .int x2, .ref r3, .int x4, .int x5, .int x6, u7, u8] [] 107 (FR b, sI N1.2 17 (ix s3) v2) Q))))) :
    WP (d + 1) 107 61 204 [.ref 7, u1, .int x2, .ref r3, .int x4, .int x5, .int x6, u7, u8] [.int s0, .int s1, .int s2, .int s3, .ref 17] 107 (FR b, M) Q := blk 4 ct61 h
set_option maxRecDepth 100000 in
theorem v61_208 {d : Nat} {b : Bool} {M : M2} {Q : QT} {u1 : Value} {x2 : Int32} {r3 : Nat} {x4 : Int32} {x5 : Int32} {x6 : Int32} {u7 : Value} {u8 : Value} (h : WP (d + 1) 107 61 6 [.ref 7, u1, .int x2, .ref r3, .int x4, .int x5, .int (x6 + 1), u7, u8] [] 107 (FR b, M) Q) :
    WP (d + 1) 107 61 208 [.ref 7, u1, .int x2, .ref r3, .int x4, .int x5, .int x6, u7, u8] [] 107 (FR b, M) Q := blk 4 ct61 h
set_option maxRecDepth 100000 in
theorem v61_214 {d : Nat} {b : Bool} {M : M2} {Q : QT} {u1 : Value} {u2 : Value} {u3 : Value} {u4 : Value} {x5 : Int32} {u6 : Value} {u7 : Value} {u8 : Value} (h : brK (x5 ≤ 0) (Q (some (.int 0)) (FR b, M)) (iK (x5 - 1) 120 (Q (some (.int (gI M 17 (ix (x5 - 1))))) (FR b, M)))) :
    WP (d + 1) 107 61 214 [.ref 7, u1, u2, u3, u4, .int x5, u6, u7, u8] [] 107 (FR b, M) Q := blk 11 ct61 h
/- StyliteOverheard$Law.named(ILStyliteOverheard$Him;I)I -/
def ct62 : Nat → Bool := fun _ => false
set_option maxRecDepth 100000 in
theorem v62_0 {d : Nat} {b : Bool} {M : M2} {Q : QT} {x0 : Int32} {r1 : Nat} {x2 : Int32} (h : (x0 = 103 → oK 107 r1 3 (Q (some (.int (gI M r1 1))) (FR b, M))) ∧ (¬ x0 = 103 → (x0 = 104 → oK 107 r1 3 (Q (some (.int (gI M r1 3))) (FR b, M))) ∧ (¬ x0 = 104 → (x0 = 105 → oK 107 r1 3 (Q (some (.int (gI M r1 6))) (FR b, M))) ∧ (¬ x0 = 105 → (x0 = 106 → oK 107 r1 3 (Q (some (.int (gI M r1 6))) (FR b, M))) ∧ (¬ x0 = 106 → (x0 = 107 → oK 107 r1 3 (Q (some (.int (gI M r1 6))) (FR b, M))) ∧ (¬ x0 = 107 → (x0 = 108 → oK 107 r1 3 (Q (some (.int (gI M r1 2))) (FR b, M))) ∧ (¬ x0 = 108 → (x0 = 109 → oK 107 r1 3 (Q (some (.int (gI M r1 0))) (FR b, M))) ∧ (¬ x0 = 109 → (x0 = 110 → oK 107 r1 3 (Q (some (.int (gI M r1 6))) (FR b, M))) ∧ (¬ x0 = 110 → (x0 = 111 → oK 107 r1 3 (Q (some (.int (gI M r1 6))) (FR b, M))) ∧ (¬ x0 = 111 → (x0 = 112 → oK 107 r1 3 (Q (some (.int (gI M r1 6))) (FR b, M))) ∧ (¬ x0 = 112 → (x0 = 113 → oK 107 r1 3 (Q (some (.int (gI M r1 6))) (FR b, M))) ∧ (¬ x0 = 113 → (x0 = 114 → Q (some (.int x2)) (FR b, M)) ∧ (¬ x0 = 114 → oK 107 r1 3 (Q (some (.int (gI M r1 6))) (FR b, M))))))))))))))) :
    WP (d + 1) 107 62 0 [.int x0, .ref r1, .int x2] [] 107 (FR b, M) Q := blk 6 ct62 h
/- StyliteOverheard$Law.joined(III)I -/
def ct63 : Nat → Bool := fun _ => false
set_option maxRecDepth 100000 in
theorem v63_0 {d : Nat} {b : Bool} {M : M2} {Q : QT} {x0 : Int32} {x1 : Int32} {x2 : Int32} (h : (x0 = 38 → brK (x1 = 0) (Q (some (.int 0)) (FR b, M)) (brK (x2 = 0) (Q (some (.int 0)) (FR b, M)) (Q (some (.int 1)) (FR b, M)))) ∧ (¬ x0 = 38 → (x0 = 42 → Q (some (.int (x1 * x2))) (FR b, M)) ∧ (¬ x0 = 42 → (x0 = 43 → Q (some (.int (x1 + x2))) (FR b, M)) ∧ (¬ x0 = 43 → (x0 = 45 → Q (some (.int (x1 - x2))) (FR b, M)) ∧ (¬ x0 = 45 → (x0 = 47 → brK (x2 = 0) (Q (some (.int 0)) (FR b, M)) (nzK x2 (Q (some (.int (x1 / x2))) (FR b, M)))) ∧ (¬ x0 = 47 → (x0 = 60 → brK (x2 ≤ x1) (Q (some (.int 0)) (FR b, M)) (Q (some (.int 1)) (FR b, M))) ∧ (¬ x0 = 60 → (x0 = 61 → brK (x1 = x2) (Q (some (.int 1)) (FR b, M)) (Q (some (.int 0)) (FR b, M))) ∧ (¬ x0 = 61 → (x0 = 62 → brK (x1 ≤ x2) (Q (some (.int 0)) (FR b, M)) (Q (some (.int 1)) (FR b, M))) ∧ (¬ x0 = 62 → (x0 = 124 → brK (x1 = 0) (brK (x2 = 0) (Q (some (.int 0)) (FR b, M)) (Q (some (.int 1)) (FR b, M))) (Q (some (.int 1)) (FR b, M))) ∧ (¬ x0 = 124 → brK (x2 = 0) (Q (some (.int 0)) (FR b, M)) (nzK x2 (Q (some (.int (x1 - x1 / x2 * x2))) (FR b, M))))))))))))) :
    WP (d + 1) 107 63 0 [.int x0, .int x1, .int x2] [] 107 (FR b, M) Q := blk 10 ct63 h
/- StyliteOverheard.hours(III)I -/
def ct64 : Nat → Bool := fun _ => false
set_option maxRecDepth 100000 in
theorem v64_0 {d : Nat} {b : Bool} {M : M2} {Q : QT} {x1 : Int32} {x2 : Int32} {x3 : Int32} {u4 : Value} (h : WP d 107 18 0 [.ref 4, .int x1] [] 107 (FR b, M) (rA (fun N1 => N1.1 = FR b ∧ (Q (some (.int (-1))) (FR b, N1.2))) (fun q2 N1 => N1.1 = FR b ∧ (WP d 107 65 0 [.int x2] [] 107 (FR b, N1.2) (rI (fun v4 N3 => N3.1 = FR b ∧ (brK (v4 = 0) (Q (some (.int (-1))) (FR b, N3.2)) (brK (x3 < 0) (Q (some (.int (-1))) (FR b, N3.2)) (brK (x3 ≤ 6) (oK 107 q2 9 (WP d 107 19 0 [.ref q2, .int 0] [] 107 (FR b, N3.2) (rI (fun v6 N5 => N5.1 = FR b ∧ (brK (v6 = 0) (oK 107 q2 9 (WP d 107 66 0 [.ref q2] [] 107 (FR b, N5.2) (rI (fun v15 N14 => N14.1 = FR b ∧ (Q (some (.int v15)) (FR b, N14.2)))))) (WP d 107 67 0 [.ref 4, .ref q2, .int x2, U] [] 107 (FR b, N5.2) (rV (fun N7 => N7.1 = FR b ∧ ((x3 = 0 → brK (x2 = 0) (Q (some (.int (-2))) (FR b, N7.2)) (Q (some (.int (gI N7.2 6 2))) (FR b, N7.2))) ∧ (¬ x3 = 0 → (x3 = 5 → WP d 107 75 0 [.ref 4, .int x2, U, U] [] 107 (FR b, N7.2) (rI (fun v9 N8 => N8.1 = FR b ∧ (Q (some (.int v9)) (FR b, N8.2))))) ∧ (¬ x3 = 5 → (x3 = 6 → WP d 107 76 0 [.ref 4, .int x2, U] [] 107 (FR b, N7.2) (rI (fun v11 N10 => N10.1 = FR b ∧ (Q (some (.int v11)) (FR b, N10.2))))) ∧ (¬ x3 = 6 → WP d 107 29 0 [.ref 6, .int (x3 - 1)] [] 107 (FR b, N7.2) (rI (fun v13 N12 => N12.1 = FR b ∧ (Q (some (.int v13)) (FR b, N12.2)))))))))))))))) (Q (some (.int (-1))) (FR b, N3.2))))))))))) :
    WP (d + 1) 107 64 0 [.ref 4, .int x1, .int x2, .int x3, u4] [] 107 (FR b, M) Q := blk 32 ct64 h
/- StyliteOverheard.isCourse(I)Z -/
def ct65 : Nat → Bool := fun _ => false
set_option maxRecDepth 100000 in
theorem v65_0 {d : Nat} {b : Bool} {M : M2} {Q : QT} {x0 : Int32} (h : brK (x0 < 0) (Q (some (.int 0)) (FR b, M)) (brK (200 < x0) (Q (some (.int 0)) (FR b, M)) (Q (some (.int 1)) (FR b, M)))) :
    WP (d + 1) 107 65 0 [.int x0] [] 107 (FR b, M) Q := blk 9 ct65 h
/- StyliteOverheard$Shelf.refusal()I -/
def ct66 : Nat → Bool := fun _ => false
set_option maxRecDepth 100000 in
theorem v66_0 {d : Nat} {b : Bool} {M : M2} {Q : QT} {th : Nat} (h : oK 107 th 9 (brK ((gI M th 0) = 0) (Q (some (.int (-11))) (FR b, M)) (Q (some (.int (-12))) (FR b, M)))) :
    WP (d + 1) 107 66 0 [.ref th] [] 107 (FR b, M) Q := blk 7 ct66 h
/- StyliteOverheard.think(LStyliteOverheard$Shelf;I)V -/
def ct67 : Nat → Bool := fun pc => Nat.beq pc 13
set_option maxRecDepth 100000 in
theorem v67_0 {d : Nat} {b : Bool} {M : M2} {Q : QT} {r1 : Nat} {x2 : Int32} {u3 : Value} (h : WP d 107 68 0 [.ref 6, .ref 5] [] 107 (FR b, M) (rV (fun N1 => N1.1 = FR b ∧ (WP (d + 1) 107 67 13 [.ref 4, .ref r1, .int x2, .int 0] [] 107 (FR b, N1.2) Q)))) :
    WP (d + 1) 107 67 0 [.ref 4, .ref r1, .int x2, u3] [] 107 (FR b, M) Q := blk 9 ct67 h
set_option maxRecDepth 100000 in
theorem v67_13 {d : Nat} {b : Bool} {M : M2} {Q : QT} {r1 : Nat} {x2 : Int32} {x3 : Int32} (h : brK (x2 ≤ x3) (Q none (FR b, M)) (brK (1000 ≤ x3) (Q none (FR b, M)) (oK 107 r1 9 (WP d 107 69 0 [.ref r1, .int x3, U] [] 107 (FR b, M) (rI (fun v2 N1 => N1.1 = FR b ∧ (WP d 107 71 0 [.ref 6, .ref 7, .int v2, U, U] [] 107 (FR b, N1.2) (rI (fun v4 N3 => N3.1 = FR b ∧ (iK x3 1000 (WP (d + 1) 107 67 13 [.ref 4, .ref r1, .int x2, .int (x3 + 1)] [] 107 (FR b, sI N3.2 54 (ix x3) v4) Q))))))))))) :
    WP (d + 1) 107 67 13 [.ref 4, .ref r1, .int x2, .int x3] [] 107 (FR b, M) Q := blk 26 ct67 h
set_option maxRecDepth 100000 in
theorem v67_0n {d : Nat} {b : Bool} {M : M2} {Q : QT} {x2 : Int32} {u3 : Value} (h : WP d 107 68 0 [.ref 6, .ref 5] [] 107 (FR b, M) (rV (fun N1 => N1.1 = FR b ∧ (WP (d + 1) 107 67 13 [.ref 4, .null, .int x2, .int 0] [] 107 (FR b, N1.2) Q)))) :
    WP (d + 1) 107 67 0 [.ref 4, .null, .int x2, u3] [] 107 (FR b, M) Q := blk 9 ct67 h
set_option maxRecDepth 100000 in
theorem v67_13n {d : Nat} {b : Bool} {M : M2} {Q : QT} {x2 : Int32} {x3 : Int32} (h : brK (x2 ≤ x3) (Q none (FR b, M)) (brK (1000 ≤ x3) (Q none (FR b, M)) (WP d 107 71 0 [.ref 6, .ref 7, .int 0, U, U] [] 107 (FR b, M) (rI (fun v2 N1 => N1.1 = FR b ∧ (iK x3 1000 (WP (d + 1) 107 67 13 [.ref 4, .null, .int x2, .int (x3 + 1)] [] 107 (FR b, sI N1.2 54 (ix x3) v2) Q))))))) :
    WP (d + 1) 107 67 13 [.ref 4, .null, .int x2, .int x3] [] 107 (FR b, M) Q := blk 25 ct67 h
/- StyliteOverheard$Him.becomes(LStyliteOverheard$Him;)V -/
def ct68 : Nat → Bool := fun _ => false
set_option maxRecDepth 100000 in
theorem v68_0 {d : Nat} {b : Bool} {M : M2} {Q : QT} {th : Nat} {r1 : Nat} (h : oK 107 r1 3 (oK 107 th 3 (oK 107 r1 3 (oK 107 th 3 (oK 107 r1 3 (oK 107 th 3 (oK 107 r1 3 (oK 107 th 3 (oK 107 r1 3 (oK 107 th 3 (oK 107 r1 3 (oK 107 th 3 (oK 107 r1 3 (oK 107 th 3 (Q none (FR b, sF (sF (sF (sF (sF (sF (sF M th 0 (gI M r1 0)) th 1 (gI M r1 1)) th 2 (gI M r1 2)) th 3 (gI M r1 3)) th 4 (gI M r1 4)) th 5 (gI M r1 5)) th 6 (gI M r1 6))))))))))))))))) :
    WP (d + 1) 107 68 0 [.ref th, .ref r1] [] 107 (FR b, M) Q := blk 30 ct68 h
/- StyliteOverheard$Shelf.remarkOf(I)I -/
def ct69 : Nat → Bool := fun _ => false
set_option maxRecDepth 100000 in
theorem v69_0 {d : Nat} {b : Bool} {M : M2} {Q : QT} {th : Nat} {x1 : Int32} {u2 : Value} (h : oK 107 th 9 (WP d 107 70 0 [.ref th, .int x1] [] 107 (FR b, M) (rI (fun v2 N1 => N1.1 = FR b ∧ (WP d 107 59 0 [.int v2] [] 107 (FR b, N1.2) (rI (fun v4 N3 => N3.1 = FR b ∧ (brK (v4 = 0) (Q (some (.int 0)) (FR b, N3.2)) (Q (some (.int v2)) (FR b, N3.2)))))))))) :
    WP (d + 1) 107 69 0 [.ref th, .int x1, u2] [] 107 (FR b, M) Q := blk 11 ct69 h
/- StyliteOverheard$Shelf.byteAt(I)I -/
def ct70 : Nat → Bool := fun _ => false
set_option maxRecDepth 100000 in
theorem v70_0 {d : Nat} {b : Bool} {M : M2} {Q : QT} {th : Nat} {x1 : Int32} (h : brK (x1 < 0) (Q (some (.int (-1))) (FR b, M)) (oK 107 th 9 (brK ((gI M th 3) ≤ x1) (Q (some (.int (-1))) (FR b, M)) (oK 107 th 9 (WP d 107 21 0 [.ref th, .int x1] [] 107 (FR b, M) (rL (fun v2 N1 => N1.1 = FR b ∧ (Q (some (.int v2.toInt32)) (FR b, N1.2))))))))) :
    WP (d + 1) 107 70 0 [.ref th, .int x1] [] 107 (FR b, M) Q := blk 13 ct70 h
/- StyliteOverheard$Him.mutters(LStyliteOverheard$Law;I)I -/
def ct71 : Nat → Bool := fun _ => false
set_option maxRecDepth 100000 in
theorem v71_0 {d : Nat} {b : Bool} {M : M2} {Q : QT} {th : Nat} {x2 : Int32} {u3 : Value} {u4 : Value} (h : WP d 107 60 0 [.ref 7, .ref th, .int x2, U, U, U] [] 107 (FR b, M) (rI (fun v2 N1 => N1.1 = FR b ∧ (oK 107 th 3 (WP d 107 72 0 [.ref th, .int v2] [] 107 (FR b, N1.2) (rI (fun v4 N3 => N3.1 = FR b ∧ (oK 107 th 3 (oK 107 th 3 (oK 107 th 3 (oK 107 th 3 (WP d 107 73 0 [.ref th] [] 107 (FR b, sF (sF N3.2 th 0 ((((gI N3.2 th 0) + v2) + x2) - (((gI N3.2 th 0) + v2) + x2) / 16 * 16)) th 2 v2) (rV (fun N5 => N5.1 = FR b ∧ (brK (v4 = 0) (Q (some (.int v2)) (FR b, N5.2)) (Q (some (.int (v2 + 16))) (FR b, N5.2))))))))))))))))) :
    WP (d + 1) 107 71 0 [.ref th, .ref 7, .int x2, u3, u4] [] 107 (FR b, M) Q := blk 32 ct71 h
/- StyliteOverheard$Him.isLump(I)Z -/
def ct72 : Nat → Bool := fun _ => false
set_option maxRecDepth 100000 in
theorem v72_0 {d : Nat} {b : Bool} {M : M2} {Q : QT} {th : Nat} {x1 : Int32} (h : brK (x1 = 15) (Q (some (.int 1)) (FR b, M)) (oK 107 th 3 (brK (x1 = (gI M th 2)) (oK 107 th 3 (oK 107 th 3 (brK ((gI M th 1) < (gI M th 6)) (Q (some (.int 0)) (FR b, M)) (Q (some (.int 1)) (FR b, M))))) (Q (some (.int 0)) (FR b, M))))) :
    WP (d + 1) 107 72 0 [.ref th, .int x1] [] 107 (FR b, M) Q := blk 16 ct72 h
/- StyliteOverheard$Him.ageAnHour()V -/
def ct73 : Nat → Bool := fun _ => false
set_option maxRecDepth 100000 in
theorem v73_0 {d : Nat} {b : Bool} {M : M2} {Q : QT} {th : Nat} (h : oK 107 th 3 (oK 107 th 3 (oK 107 th 3 (oK 107 th 3 (oK 107 th 3 (Q none (FR b, sF (sF M th 1 (imn 9 ((gI M th 1) + (gI M th 4)))) th 3 (((gI M th 3) + 1) - ((gI M th 3) + 1) / 24 * 24)))))))) :
    WP (d + 1) 107 73 0 [.ref th] [] 107 (FR b, M) Q := blk 19 ct73 h
/- StyliteOverheard.lumpsIn(I)I -/
def ct75 : Nat → Bool := fun pc => Nat.beq pc 4
set_option maxRecDepth 100000 in
theorem v75_0 {d : Nat} {b : Bool} {M : M2} {Q : QT} {x1 : Int32} {u2 : Value} {u3 : Value} (h : WP (d + 1) 107 75 4 [.ref 4, .int x1, .int 0, .int 0] [] 107 (FR b, M) Q) :
    WP (d + 1) 107 75 0 [.ref 4, .int x1, u2, u3] [] 107 (FR b, M) Q := blk 6 ct75 h
set_option maxRecDepth 100000 in
theorem v75_4 {d : Nat} {b : Bool} {M : M2} {Q : QT} {x1 : Int32} {x2 : Int32} {x3 : Int32} (h : brK (x1 ≤ x3) (Q (some (.int x2)) (FR b, M)) (brK (1000 ≤ x3) (Q (some (.int x2)) (FR b, M)) (iK x3 1000 (brK ((gI M 54 (ix x3)) < 16) (WP (d + 1) 107 75 4 [.ref 4, .int x1, .int (x2 + 0), .int (x3 + 1)] [] 107 (FR b, M) Q) (WP (d + 1) 107 75 4 [.ref 4, .int x1, .int (x2 + 1), .int (x3 + 1)] [] 107 (FR b, M) Q))))) :
    WP (d + 1) 107 75 4 [.ref 4, .int x1, .int x2, .int x3] [] 107 (FR b, M) Q := blk 23 ct75 h
/- StyliteOverheard.firstLumpIn(I)I -/
def ct76 : Nat → Bool := fun pc => Nat.beq pc 2
set_option maxRecDepth 100000 in
theorem v76_0 {d : Nat} {b : Bool} {M : M2} {Q : QT} {x1 : Int32} {u2 : Value} (h : WP (d + 1) 107 76 2 [.ref 4, .int x1, .int 0] [] 107 (FR b, M) Q) :
    WP (d + 1) 107 76 0 [.ref 4, .int x1, u2] [] 107 (FR b, M) Q := blk 4 ct76 h
set_option maxRecDepth 100000 in
theorem v76_2 {d : Nat} {b : Bool} {M : M2} {Q : QT} {x1 : Int32} {x2 : Int32} (h : brK (x1 ≤ x2) (Q (some (.int (-2))) (FR b, M)) (brK (1000 ≤ x2) (Q (some (.int (-2))) (FR b, M)) (iK x2 1000 (brK ((gI M 54 (ix x2)) < 16) (WP (d + 1) 107 76 2 [.ref 4, .int x1, .int (x2 + 1)] [] 107 (FR b, M) Q) (Q (some (.int x2)) (FR b, M)))))) :
    WP (d + 1) 107 76 2 [.ref 4, .int x1, .int x2] [] 107 (FR b, M) Q := blk 18 ct76 h
/- StyliteOverheard.often(IIII)I -/
def ct77 : Nat → Bool := fun _ => false
set_option maxRecDepth 100000 in
theorem v77_0 {d : Nat} {b : Bool} {M : M2} {Q : QT} {x1 : Int32} {x2 : Int32} {x3 : Int32} {x4 : Int32} {u5 : Value} (h : WP d 107 18 0 [.ref 4, .int x1] [] 107 (FR b, M) (rA (fun N1 => N1.1 = FR b ∧ (Q (some (.int (-1))) (FR b, N1.2))) (fun q2 N1 => N1.1 = FR b ∧ (WP d 107 65 0 [.int x2] [] 107 (FR b, N1.2) (rI (fun v4 N3 => N3.1 = FR b ∧ (brK (v4 = 0) (Q (some (.int (-1))) (FR b, N3.2)) (WP d 107 78 0 [.int x3] [] 107 (FR b, N3.2) (rI (fun v6 N5 => N5.1 = FR b ∧ (brK (v6 = 0) (Q (some (.int (-1))) (FR b, N5.2)) (WP d 107 79 0 [.int x4] [] 107 (FR b, N5.2) (rI (fun v8 N7 => N7.1 = FR b ∧ (brK (v8 = 0) (Q (some (.int (-1))) (FR b, N7.2)) (oK 107 q2 9 (WP d 107 19 0 [.ref q2, .int 0] [] 107 (FR b, N7.2) (rI (fun v10 N9 => N9.1 = FR b ∧ (brK (v10 = 0) (oK 107 q2 9 (WP d 107 66 0 [.ref q2] [] 107 (FR b, N9.2) (rI (fun v18 N17 => N17.1 = FR b ∧ (Q (some (.int v18)) (FR b, N17.2)))))) (brK (x4 = 0) (WP d 107 67 0 [.ref 4, .ref q2, .int x2, U] [] 107 (FR b, N9.2) (rV (fun N14 => N14.1 = FR b ∧ (WP d 107 80 0 [.ref 4, .int x2, .int (1 <<< (x3 &&& 31)), U, U] [] 107 (FR b, N14.2) (rI (fun v16 N15 => N15.1 = FR b ∧ (Q (some (.int v16)) (FR b, N15.2)))))))) (WP d 107 67 0 [.ref 4, .ref q2, .int 200, U] [] 107 (FR b, N9.2) (rV (fun N11 => N11.1 = FR b ∧ (WP d 107 81 0 [.ref 4, .int 200, .int x3, U] [] 107 (FR b, N11.2) (rI (fun v13 N12 => N12.1 = FR b ∧ (Q (some (.int v13)) (FR b, N12.2))))))))))))))))))))))))))))) :
    WP (d + 1) 107 77 0 [.ref 4, .int x1, .int x2, .int x3, .int x4, u5] [] 107 (FR b, M) Q := blk 33 ct77 h
/- StyliteOverheard.isThing(I)Z -/
def ct78 : Nat → Bool := fun _ => false
set_option maxRecDepth 100000 in
theorem v78_0 {d : Nat} {b : Bool} {M : M2} {Q : QT} {x0 : Int32} (h : brK (x0 < 0) (Q (some (.int 0)) (FR b, M)) (brK (16 ≤ x0) (Q (some (.int 0)) (FR b, M)) (Q (some (.int 1)) (FR b, M)))) :
    WP (d + 1) 107 78 0 [.int x0] [] 107 (FR b, M) Q := blk 9 ct78 h
/- StyliteOverheard.isEither(I)Z -/
def ct79 : Nat → Bool := fun _ => false
set_option maxRecDepth 100000 in
theorem v79_0 {d : Nat} {b : Bool} {M : M2} {Q : QT} {x0 : Int32} (h : brK (x0 = 0) (Q (some (.int 1)) (FR b, M)) (brK (x0 = 1) (Q (some (.int 1)) (FR b, M)) (Q (some (.int 0)) (FR b, M)))) :
    WP (d + 1) 107 79 0 [.int x0] [] 107 (FR b, M) Q := blk 9 ct79 h
/- StyliteOverheard.saidIn(II)I -/
def ct80 : Nat → Bool := fun pc => Nat.beq pc 5
set_option maxRecDepth 100000 in
theorem v80_0 {d : Nat} {b : Bool} {M : M2} {Q : QT} {x1 : Int32} {x2 : Int32} {u3 : Value} {u4 : Value} (h : WP (d + 1) 107 80 5 [.ref 4, .int x1, .int x2, .int 0, .int 0] [] 107 (FR b, M) Q) :
    WP (d + 1) 107 80 0 [.ref 4, .int x1, .int x2, u3, u4] [] 107 (FR b, M) Q := blk 6 ct80 h
set_option maxRecDepth 100000 in
theorem v80_5 {d : Nat} {b : Bool} {M : M2} {Q : QT} {x1 : Int32} {x2 : Int32} {x3 : Int32} {x4 : Int32} (h : brK (x1 ≤ x4) (Q (some (.int x3)) (FR b, M)) (brK (1000 ≤ x4) (Q (some (.int x3)) (FR b, M)) (iK x4 1000 (WP (d + 1) 107 80 5 [.ref 4, .int x1, .int x2, .int (x3 + ((x2 >>> (((gI M 54 (ix x4)) &&& 15) &&& 31)) &&& 1)), .int (x4 + 1)] [] 107 (FR b, M) Q)))) :
    WP (d + 1) 107 80 5 [.ref 4, .int x1, .int x2, .int x3, .int x4] [] 107 (FR b, M) Q := blk 25 ct80 h
/- StyliteOverheard.firstIn(II)I -/
def ct81 : Nat → Bool := fun pc => Nat.beq pc 2
set_option maxRecDepth 100000 in
theorem v81_0 {d : Nat} {b : Bool} {M : M2} {Q : QT} {x1 : Int32} {x2 : Int32} {u3 : Value} (h : WP (d + 1) 107 81 2 [.ref 4, .int x1, .int x2, .int 0] [] 107 (FR b, M) Q) :
    WP (d + 1) 107 81 0 [.ref 4, .int x1, .int x2, u3] [] 107 (FR b, M) Q := blk 4 ct81 h
set_option maxRecDepth 100000 in
theorem v81_2 {d : Nat} {b : Bool} {M : M2} {Q : QT} {x1 : Int32} {x2 : Int32} {x3 : Int32} (h : brK (x1 ≤ x3) (Q (some (.int (-2))) (FR b, M)) (brK (1000 ≤ x3) (Q (some (.int (-2))) (FR b, M)) (iK x3 1000 (brK (((gI M 54 (ix x3)) &&& 15) = x2) (Q (some (.int x3)) (FR b, M)) (WP (d + 1) 107 81 2 [.ref 4, .int x1, .int x2, .int (x3 + 1)] [] 107 (FR b, M) Q))))) :
    WP (d + 1) 107 81 2 [.ref 4, .int x1, .int x2, .int x3] [] 107 (FR b, M) Q := blk 20 ct81 h
/- StyliteOverheard.round(I)I -/
def ct82 : Nat → Bool := fun pc => Nat.beq pc 35
set_option maxRecDepth 100000 in
theorem v82_0 {d : Nat} {b : Bool} {M : M2} {Q : QT} {x1 : Int32} {u2 : Value} {u3 : Value} (h : WP d 107 79 0 [.int x1] [] 107 (FR b, M) (rI (fun v2 N1 => N1.1 = FR b ∧ (brK (v2 = 0) (Q (some (.int (-1))) (FR b, N1.2)) (WP d 107 68 0 [.ref 6, .ref 5] [] 107 (FR b, N1.2) (rV (fun N3 => N3.1 = FR b ∧ (WP d 107 83 0 [.ref 6] [] 107 (FR b, N3.2) (rI (fun v5 N4 => N4.1 = FR b ∧ (WP (d + 1) 107 82 35 [.ref 4, .int x1, .int 1, u3] [] 107 (FR b, sI N4.2 54 0 v5) Q))))))))))) :
    WP (d + 1) 107 82 0 [.ref 4, .int x1, u2, u3] [] 107 (FR b, M) Q := blk 19 ct82 h
set_option maxRecDepth 100000 in
theorem v82_35 {d : Nat} {b : Bool} {M : M2} {Q : QT} {x1 : Int32} {x2 : Int32} {u3 : Value} (h : brK (999 < x2) (Q (some (.int (-2))) (FR b, M)) (WP d 107 71 0 [.ref 6, .ref 7, .int 0, U, U] [] 107 (FR b, M) (rI (fun v2 N1 => N1.1 = FR b ∧ (WP d 107 83 0 [.ref 6] [] 107 (FR b, N1.2) (rI (fun v4 N3 => N3.1 = FR b ∧ (iK x2 1000 (WP d 107 84 0 [.ref 4, .int x2, U] [] 107 (FR b, sI N3.2 54 (ix x2) v4) (rI (fun v6 N5 => N5.1 = FR b ∧ (brK (v6 < 0) (WP (d + 1) 107 82 35 [.ref 4, .int x1, .int (x2 + 1), .int v6] [] 107 (FR b, N5.2) Q) (brK (x1 = 0) (Q (some (.int x2)) (FR b, N5.2)) (Q (some (.int v6)) (FR b, N5.2))))))))))))))) :
    WP (d + 1) 107 82 35 [.ref 4, .int x1, .int x2, u3] [] 107 (FR b, M) Q := blk 29 ct82 h
/- StyliteOverheard$Him.allAsOne()I -/
def ct83 : Nat → Bool := fun _ => false
set_option maxRecDepth 100000 in
theorem v83_0 {d : Nat} {b : Bool} {M : M2} {Q : QT} {th : Nat} (h : oK 107 th 3 (oK 107 th 3 (oK 107 th 3 (oK 107 th 3 (Q (some (.int (((((((gI M th 0) * 10) + (gI M th 1)) * 16) + (gI M th 2)) * 24) + (gI M th 3)))) (FR b, M)))))) :
    WP (d + 1) 107 83 0 [.ref th] [] 107 (FR b, M) Q := blk 19 ct83 h
/- StyliteOverheard.sameAhead(I)I -/
def ct84 : Nat → Bool := fun pc => Nat.beq pc 5
set_option maxRecDepth 100000 in
theorem v84_0 {d : Nat} {b : Bool} {M : M2} {Q : QT} {x1 : Int32} {u2 : Value} (h : WP (d + 1) 107 84 5 [.ref 4, .int x1, .int (x1 - x1 / 24 * 24)] [] 107 (FR b, M) Q) :
    WP (d + 1) 107 84 0 [.ref 4, .int x1, u2] [] 107 (FR b, M) Q := blk 6 ct84 h
set_option maxRecDepth 100000 in
theorem v84_5 {d : Nat} {b : Bool} {M : M2} {Q : QT} {x1 : Int32} {x2 : Int32} (h : brK (x1 ≤ x2) (Q (some (.int (-2))) (FR b, M)) (WP d 107 15 0 [.ref 54, .int x2] [] 107 (FR b, M) (rI (fun v2 N1 => N1.1 = FR b ∧ (WP d 107 15 0 [.ref 54, .int x1] [] 107 (FR b, N1.2) (rI (fun v4 N3 => N3.1 = FR b ∧ (brK (v2 = v4) (Q (some (.int x2)) (FR b, N3.2)) (WP (d + 1) 107 84 5 [.ref 4, .int x1, .int (x2 + 24)] [] 107 (FR b, N3.2) Q))))))))) :
    WP (d + 1) 107 84 5 [.ref 4, .int x1, .int x2] [] 107 (FR b, M) Q := blk 16 ct84 h
/- StyliteOverheard.make(II)I -/
def ct85 : Nat → Bool := fun _ => false
set_option maxRecDepth 100000 in
theorem v85_0 {d : Nat} {b : Bool} {M : M2} {Q : QT} {x1 : Int32} {x2 : Int32} (h : brK (x1 < 0) (Q (some (.int (-1))) (FR b, M)) (brK (16384 ≤ x1) (Q (some (.int (-1))) (FR b, M)) (brK ((-1) ≤ x2) (WP d 107 86 0 [.ref 43, .int 0, .int (1 <<< ((x1 / 1024) &&& 31)), .int 12, .int (x1 - x1 / 1024 * 1024), .ref 5, .ref 7, U] [] 107 (FR b, M) (rI (fun v2 N1 => N1.1 = FR b ∧ (brK ((gI N1.2 43 4) = 0) (Q (some (.int (-2))) (FR b, N1.2)) (brK (0 ≤ x2) (WP d 107 100 0 [.ref 43, .int x2] [] 107 (FR b, N1.2) (rI (fun v4 N3 => N3.1 = FR b ∧ (Q (some (.int v4)) (FR b, N3.2))))) (Q (some (.int (gI N1.2 43 4))) (FR b, N1.2))))))) (Q (some (.int (-1))) (FR b, M))))) :
    WP (d + 1) 107 85 0 [.ref 4, .int x1, .int x2] [] 107 (FR b, M) Q := blk 38 ct85 h
/- StyliteOverheard$Planner.plan(IIIILStyliteOverheard$Him;LStyliteOverheard$Law;)I -/
def ct86 : Nat → Bool := fun pc => Nat.beq pc 38
set_option maxRecDepth 100000 in
theorem v86_0 {d : Nat} {b : Bool} {M : M2} {Q : QT} {x1 : Int32} {x2 : Int32} {x3 : Int32} {x4 : Int32} {r5 : Nat} {u7 : Value} (h : brK (x4 = 0) (WP (d + 1) 107 86 38 [.ref 43, .int x1, .int x2, .int x3, .int x4, .ref r5, .ref 7, .int 0] [] 107 (FR b, sI (sI (sI (sI M 43 6 x1) 43 7 x2) 43 4 (imn x3 12)) 43 5 1) Q) (WP (d + 1) 107 86 38 [.ref 43, .int x1, .int x2, .int x3, .int x4, .ref r5, .ref 7, .int 0] [] 107 (FR b, sI (sI (sI (sI M 43 6 x1) 43 7 x2) 43 4 (imn x3 12)) 43 5 x4) Q)) :
    WP (d + 1) 107 86 0 [.ref 43, .int x1, .int x2, .int x3, .int x4, .ref r5, .ref 7, u7] [] 107 (FR b, M) Q := blk 21 ct86 h
set_option maxRecDepth 100000 in
theorem v86_38 {d : Nat} {b : Bool} {M : M2} {Q : QT} {u1 : Value} {u2 : Value} {u3 : Value} {u4 : Value} {r5 : Nat} {x7 : Int32} (h : brK (3328 ≤ x7) (oK 107 r5 3 (oK 107 r5 3 (WP d 107 87 0 [.ref 43, .int (((gI M r5 0) * 16) + (gI M r5 2)), .int 0] [] 107 (FR b, M) (rV (fun N1 => N1.1 = FR b ∧ (WP d 107 88 0 [.ref 43, .ref r5, .ref 7, U, U, U] [] 107 (FR b, N1.2) (rV (fun N2 => N2.1 = FR b ∧ (WP d 107 93 0 [.ref 43, .ref r5, U, U, U, U, U] [] 107 (FR b, N2.2) (rV (fun N3 => N3.1 = FR b ∧ (WP d 107 99 0 [.ref 43, .ref r5, .int (((gI M r5 0) * 16) + (gI M r5 2)), U, U, U] [] 107 (FR b, N3.2) (rV (fun N4 => N4.1 = FR b ∧ (WP d 107 89 0 [.ref 43, .int (((gI M r5 0) * 16) + (gI M r5 2))] [] 107 (FR b, N4.2) (rI (fun v6 N5 => N5.1 = FR b ∧ (Q (some (.int v6)) (FR b, N5.2))))))))))))))))))) (iK x7 3328 (WP (d + 1) 107 86 38 [.ref 43, u1, u2, u3, u4, .ref r5, .ref 7, .int (x7 + 1)] [] 107 (FR b, sI M 47 (ix x7) (-1000)) Q))) :
    WP (d + 1) 107 86 38 [.ref 43, u1, u2, u3, u4, .ref r5, .ref 7, .int x7] [] 107 (FR b, M) Q := blk 33 ct86 h
/- StyliteOverheard$Planner.setWorth(II)V -/
def ct87 : Nat → Bool := fun _ => false
set_option maxRecDepth 100000 in
theorem v87_0 {d : Nat} {b : Bool} {M : M2} {Q : QT} {x1 : Int32} {x2 : Int32} (h : brK (x1 < 0) (Q none (FR b, M)) (brK (3328 ≤ x1) (Q none (FR b, M)) (iK x1 3328 (Q none (FR b, sI M 47 (ix x1) x2))))) :
    WP (d + 1) 107 87 0 [.ref 43, .int x1, .int x2] [] 107 (FR b, M) Q := blk 14 ct87 h
/- StyliteOverheard$Planner.spread(LStyliteOverheard$Him;LStyliteOverheard$Law;)V -/
def ct88 : Nat → Bool := fun pc => Nat.beq pc 10 || Nat.beq pc 24
set_option maxRecDepth 100000 in
theorem v88_0 {d : Nat} {b : Bool} {M : M2} {Q : QT} {r1 : Nat} {u3 : Value} {u4 : Value} {u5 : Value} (h : WP d 107 68 0 [.ref 44, .ref r1] [] 107 (FR b, M) (rV (fun N1 => N1.1 = FR b ∧ (WP (d + 1) 107 88 10 [.ref 43, .ref r1, .ref 7, .int 0, u4, u5] [] 107 (FR b, N1.2) Q)))) :
    WP (d + 1) 107 88 0 [.ref 43, .ref r1, .ref 7, u3, u4, u5] [] 107 (FR b, M) Q := blk 8 ct88 h
set_option maxRecDepth 100000 in
theorem v88_10 {d : Nat} {b : Bool} {M : M2} {Q : QT} {u1 : Value} {x3 : Int32} {u4 : Value} {u5 : Value} (h : brK ((gI M 43 4) ≤ x3) (brK ((gI M 43 6) = 0) (Q none (FR b, sI M 43 4 0)) (Q none (FR b, M))) (WP (d + 1) 107 88 24 [.ref 43, u1, .ref 7, .int x3, .int 0, .int 0] [] 107 (FR b, M) Q)) :
    WP (d + 1) 107 88 10 [.ref 43, u1, .ref 7, .int x3, u4, u5] [] 107 (FR b, M) Q := blk 12 ct88 h
set_option maxRecDepth 100000 in
theorem v88_24 {d : Nat} {b : Bool} {M : M2} {Q : QT} {u1 : Value} {x3 : Int32} {x4 : Int32} {x5 : Int32} (h : brK (256 ≤ x5) (brK ((gI M 43 6) = 0) (brK (x4 = 0) (WP d 107 73 0 [.ref 44] [] 107 (FR b, M) (rV (fun N2 => N2.1 = FR b ∧ (WP (d + 1) 107 88 10 [.ref 43, u1, .ref 7, .int (x3 + 1), .int x4, .int x5] [] 107 (FR b, N2.2) Q)))) (Q none (FR b, sI M 43 4 (x3 + 1)))) (WP d 107 73 0 [.ref 44] [] 107 (FR b, M) (rV (fun N1 => N1.1 = FR b ∧ (WP (d + 1) 107 88 10 [.ref 43, u1, .ref 7, .int (x3 + 1), .int x4, .int x5] [] 107 (FR b, N1.2) Q))))) (WP d 107 89 0 [.ref 43, .int ((x3 * 256) + x5)] [] 107 (FR b, M) (rI (fun v4 N3 => N3.1 = FR b ∧ (brK (v4 = (-1000)) (WP (d + 1) 107 88 24 [.ref 43, u1, .ref 7, .int x3, .int x4, .int (x5 + 1)] [] 107 (FR b, N3.2) Q) (WP d 107 90 0 [.ref 43, .int x3, .int x5, .ref 7, U, U, U] [] 107 (FR b, N3.2) (rI (fun v6 N5 => N5.1 = FR b ∧ (brK (v6 = 0) (WP (d + 1) 107 88 24 [.ref 43, u1, .ref 7, .int x3, .int x4, .int (x5 + 1)] [] 107 (FR b, N5.2) Q) (WP (d + 1) 107 88 24 [.ref 43, u1, .ref 7, .int x3, .int 1, .int (x5 + 1)] [] 107 (FR b, N5.2) Q)))))))))) :
    WP (d + 1) 107 88 24 [.ref 43, u1, .ref 7, .int x3, .int x4, .int x5] [] 107 (FR b, M) Q := blk 24 ct88 h
/- StyliteOverheard$Planner.worthAt(I)I -/
def ct89 : Nat → Bool := fun _ => false
set_option maxRecDepth 100000 in
theorem v89_0 {d : Nat} {b : Bool} {M : M2} {Q : QT} {x1 : Int32} (h : brK (x1 < 0) (Q (some (.int (-1000))) (FR b, M)) (brK (3328 ≤ x1) (Q (some (.int (-1000))) (FR b, M)) (iK x1 3328 (Q (some (.int (gI M 47 (ix x1)))) (FR b, M))))) :
    WP (d + 1) 107 89 0 [.ref 43, .int x1] [] 107 (FR b, M) Q := blk 14 ct89 h
/- StyliteOverheard$Planner.saysFrom(IILStyliteOverheard$Law;)Z -/
def ct90 : Nat → Bool := fun pc => Nat.beq pc 28
set_option maxRecDepth 100000 in
theorem v90_0 {d : Nat} {b : Bool} {M : M2} {Q : QT} {x1 : Int32} {x2 : Int32} {u4 : Value} {u5 : Value} {u6 : Value} (h : WP (d + 1) 107 90 28 [.ref 43, .int x1, .int x2, .ref 7, .int 0, .int 0, u6] [] 107 (FR b, sF (sF M 44 0 (x2 / 16)) 44 2 (x2 - x2 / 16 * 16)) Q) :
    WP (d + 1) 107 90 0 [.ref 43, .int x1, .int x2, .ref 7, u4, u5, u6] [] 107 (FR b, M) Q := blk 18 ct90 h
set_option maxRecDepth 100000 in
theorem v90_28 {d : Nat} {b : Bool} {M : M2} {Q : QT} {x1 : Int32} {x2 : Int32} {x4 : Int32} {x5 : Int32} {u6 : Value} (h : brK (10 ≤ x5) (iK x4 2 (Q (some (.int x4)) (FR b, M))) (brK ((((gI M 43 5) >>> (x5 &&& 31)) &&& 1) = 0) (WP (d + 1) 107 90 28 [.ref 43, .int x1, .int x2, .ref 7, .int x4, .int (x5 + 1), u6] [] 107 (FR b, M) Q) (WP d 107 60 0 [.ref 7, .ref 44, .int x5, U, U, U] [] 107 (FR b, M) (rI (fun v2 N1 => N1.1 = FR b ∧ (WP d 107 91 0 [.ref 43, .int ((x1 * 256) + x2), .int x5, .int v2] [] 107 (FR b, N1.2) (rV (fun N3 => N3.1 = FR b ∧ (WP d 107 92 0 [.int x2, .int v2, .int x5] [] 107 (FR b, N3.2) (rI (fun v5 N4 => N4.1 = FR b ∧ (WP d 107 87 0 [.ref 43, .int (((x1 + 1) * 256) + v5), .int 0] [] 107 (FR b, N4.2) (rV (fun N6 => N6.1 = FR b ∧ (brK (x4 = 0) (brK ((((gI N6.2 43 7) >>> (v2 &&& 31)) &&& 1) = 0) (WP (d + 1) 107 90 28 [.ref 43, .int x1, .int x2, .ref 7, .int 0, .int (x5 + 1), .int v2] [] 107 (FR b, N6.2) Q) (WP (d + 1) 107 90 28 [.ref 43, .int x1, .int x2, .ref 7, .int 1, .int (x5 + 1), .int v2] [] 107 (FR b, N6.2) Q)) (WP (d + 1) 107 90 28 [.ref 43, .int x1, .int x2, .ref 7, .int 1, .int (x5 + 1), .int v2] [] 107 (FR b, N6.2) Q)))))))))))))))) :
    WP (d + 1) 107 90 28 [.ref 43, .int x1, .int x2, .ref 7, .int x4, .int x5, u6] [] 107 (FR b, M) Q := blk 54 ct90 h
/- StyliteOverheard$Planner.keepSaid(III)V -/
def ct91 : Nat → Bool := fun _ => false
set_option maxRecDepth 100000 in
theorem v91_0 {d : Nat} {b : Bool} {M : M2} {Q : QT} {x1 : Int32} {x2 : Int32} {x3 : Int32} (h : brK (x1 < 0) (Q none (FR b, M)) (brK (3072 ≤ x1) (Q none (FR b, M)) (iK x1 3072 (iK x1 3072 (Q none (FR b, sL M 46 (ix x1) (((gL M 46 (ix x1)) &&& ((15 <<< ((4 * x2).toInt64 &&& 63)) ^^^ (-1))) ||| (x3.toInt64 <<< ((4 * x2).toInt64 &&& 63))))))))) :
    WP (d + 1) 107 91 0 [.ref 43, .int x1, .int x2, .int x3] [] 107 (FR b, M) Q := blk 32 ct91 h
/- StyliteOverheard$Planner.next(III)I -/
def ct92 : Nat → Bool := fun _ => false
set_option maxRecDepth 100000 in
theorem v92_0 {d : Nat} {b : Bool} {M : M2} {Q : QT} {x0 : Int32} {x1 : Int32} {x2 : Int32} (h : Q (some (.int ((((((x0 / 16) + x1) + x2) - (((x0 / 16) + x1) + x2) / 16 * 16) * 16) + x1))) (FR b, M)) :
    WP (d + 1) 107 92 0 [.int x0, .int x1, .int x2] [] 107 (FR b, M) Q := blk 15 ct92 h
/- StyliteOverheard$Planner.weigh(LStyliteOverheard$Him;)V -/
def ct93 : Nat → Bool := fun pc => Nat.beq pc 7 || Nat.beq pc 19 || Nat.beq pc 58
set_option maxRecDepth 100000 in
theorem v93_0 {d : Nat} {b : Bool} {M : M2} {Q : QT} {r1 : Nat} {u2 : Value} {u3 : Value} {u4 : Value} {u5 : Value} {u6 : Value} (h : WP (d + 1) 107 93 7 [.ref 43, .ref r1, .int ((gI M 43 4) - 1), u3, u4, u5, u6] [] 107 (FR b, M) Q) :
    WP (d + 1) 107 93 0 [.ref 43, .ref r1, u2, u3, u4, u5, u6] [] 107 (FR b, M) Q := blk 7 ct93 h
set_option maxRecDepth 100000 in
theorem v93_7 {d : Nat} {b : Bool} {M : M2} {Q : QT} {r1 : Nat} {x2 : Int32} {u3 : Value} {u4 : Value} {u5 : Value} {u6 : Value} (h : brK (x2 < 0) (Q none (FR b, M)) (WP d 107 94 0 [.ref 43, .ref r1, .int x2, U] [] 107 (FR b, M) (rV (fun N1 => N1.1 = FR b ∧ (WP (d + 1) 107 93 19 [.ref 43, .ref r1, .int x2, .int 0, u4, u5, u6] [] 107 (FR b, N1.2) Q))))) :
    WP (d + 1) 107 93 7 [.ref 43, .ref r1, .int x2, u3, u4, u5, u6] [] 107 (FR b, M) Q := blk 10 ct93 h
set_option maxRecDepth 100000 in
theorem v93_19 {d : Nat} {b : Bool} {M : M2} {Q : QT} {r1 : Nat} {x2 : Int32} {x3 : Int32} {u4 : Value} {u5 : Value} {u6 : Value} (h : brK (256 ≤ x3) (WP (d + 1) 107 93 7 [.ref 43, .ref r1, .int (x2 + (-1)), .int x3, u4, u5, u6] [] 107 (FR b, M) Q) (WP d 107 89 0 [.ref 43, .int ((x2 * 256) + x3)] [] 107 (FR b, M) (rI (fun v2 N1 => N1.1 = FR b ∧ (brK (v2 = (-1000)) (WP (d + 1) 107 93 19 [.ref 43, .ref r1, .int x2, .int (x3 + 1), .int ((x2 * 256) + x3), u5, u6] [] 107 (FR b, N1.2) Q) (WP (d + 1) 107 93 58 [.ref 43, .ref r1, .int x2, .int x3, .int ((x2 * 256) + x3), .int (-1000), .int 0] [] 107 (FR b, N1.2) Q)))))) :
    WP (d + 1) 107 93 19 [.ref 43, .ref r1, .int x2, .int x3, u4, u5, u6] [] 107 (FR b, M) Q := blk 20 ct93 h
set_option maxRecDepth 100000 in
theorem v93_58 {d : Nat} {b : Bool} {M : M2} {Q : QT} {r1 : Nat} {x2 : Int32} {x3 : Int32} {x4 : Int32} {x5 : Int32} {x6 : Int32} (h : brK (10 ≤ x6) (WP d 107 87 0 [.ref 43, .int x4, .int x5] [] 107 (FR b, M) (rV (fun N1 => N1.1 = FR b ∧ (WP (d + 1) 107 93 19 [.ref 43, .ref r1, .int x2, .int (x3 + 1), .int x4, .int x5, .int x6] [] 107 (FR b, N1.2) Q)))) (WP d 107 95 0 [.ref 43, .int x2, .int x3, .int x6, U] [] 107 (FR b, M) (rI (fun v3 N2 => N2.1 = FR b ∧ (WP (d + 1) 107 93 58 [.ref 43, .ref r1, .int x2, .int x3, .int x4, .int (imx x5 v3), .int (x6 + 1)] [] 107 (FR b, N2.2) Q))))) :
    WP (d + 1) 107 93 58 [.ref 43, .ref r1, .int x2, .int x3, .int x4, .int x5, .int x6] [] 107 (FR b, M) Q := blk 15 ct93 h
/- StyliteOverheard$Planner.ageTo(LStyliteOverheard$Him;I)V -/
def ct94 : Nat → Bool := fun pc => Nat.beq pc 10
set_option maxRecDepth 100000 in
theorem v94_0 {d : Nat} {b : Bool} {M : M2} {Q : QT} {r1 : Nat} {x2 : Int32} {u3 : Value} (h : WP d 107 68 0 [.ref 44, .ref r1] [] 107 (FR b, M) (rV (fun N1 => N1.1 = FR b ∧ (WP (d + 1) 107 94 10 [.ref 43, .ref r1, .int x2, .int 0] [] 107 (FR b, N1.2) Q)))) :
    WP (d + 1) 107 94 0 [.ref 43, .ref r1, .int x2, u3] [] 107 (FR b, M) Q := blk 8 ct94 h
set_option maxRecDepth 100000 in
theorem v94_10 {d : Nat} {b : Bool} {M : M2} {Q : QT} {u1 : Value} {x2 : Int32} {x3 : Int32} (h : brK (x2 ≤ x3) (Q none (FR b, M)) (WP d 107 73 0 [.ref 44] [] 107 (FR b, M) (rV (fun N1 => N1.1 = FR b ∧ (WP (d + 1) 107 94 10 [.ref 43, u1, .int x2, .int (x3 + 1)] [] 107 (FR b, N1.2) Q))))) :
    WP (d + 1) 107 94 10 [.ref 43, u1, .int x2, .int x3] [] 107 (FR b, M) Q := blk 10 ct94 h
/- StyliteOverheard$Planner.worthBy(III)I -/
def ct95 : Nat → Bool := fun _ => false
set_option maxRecDepth 100000 in
theorem v95_0 {d : Nat} {b : Bool} {M : M2} {Q : QT} {x1 : Int32} {x2 : Int32} {x3 : Int32} {u4 : Value} (h : brK ((((gI M 43 5) >>> (x3 &&& 31)) &&& 1) = 0) (Q (some (.int (-1000))) (FR b, M)) (WP d 107 96 0 [.ref 43, .int ((x1 * 256) + x2), .int x3] [] 107 (FR b, M) (rI (fun v2 N1 => N1.1 = FR b ∧ (WP d 107 97 0 [.ref 43, .int x1, .int v2] [] 107 (FR b, sF N1.2 44 2 (x2 - x2 / 16 * 16)) (rI (fun v4 N3 => N3.1 = FR b ∧ (WP d 107 92 0 [.int x2, .int v2, .int x3] [] 107 (FR b, N3.2) (rI (fun v6 N5 => N5.1 = FR b ∧ (WP d 107 89 0 [.ref 43, .int (((x1 + 1) * 256) + v6)] [] 107 (FR b, N5.2) (rI (fun v8 N7 => N7.1 = FR b ∧ (Q (some (.int (v4 + v8))) (FR b, N7.2))))))))))))))) :
    WP (d + 1) 107 95 0 [.ref 43, .int x1, .int x2, .int x3, u4] [] 107 (FR b, M) Q := blk 41 ct95 h
/- StyliteOverheard$Planner.saidAt(II)I -/
def ct96 : Nat → Bool := fun _ => false
set_option maxRecDepth 100000 in
theorem v96_0 {d : Nat} {b : Bool} {M : M2} {Q : QT} {x1 : Int32} {x2 : Int32} (h : brK (x1 < 0) (Q (some (.int 0)) (FR b, M)) (brK (3072 ≤ x1) (Q (some (.int 0)) (FR b, M)) (iK x1 3072 (Q (some (.int (((((gL M 46 (ix x1)).toUInt64 >>> ((4 * x2).toInt64.toUInt64 &&& Int64.toUInt64 63)).toInt64).toInt32) &&& 15))) (FR b, M))))) :
    WP (d + 1) 107 96 0 [.ref 43, .int x1, .int x2] [] 107 (FR b, M) Q := blk 21 ct96 h
/- StyliteOverheard$Planner.pointsOf(II)I -/
def ct97 : Nat → Bool := fun _ => false
set_option maxRecDepth 100000 in
theorem v97_0 {d : Nat} {b : Bool} {M : M2} {Q : QT} {x1 : Int32} {x2 : Int32} (h : brK ((gI M 43 6) = 2) (WP d 107 72 0 [.ref 44, .int x2] [] 107 (FR b, M) (rI (fun v2 N1 => N1.1 = FR b ∧ (brK (v2 = 0) (Q (some (.int 0)) (FR b, N1.2)) (Q (some (.int (-1))) (FR b, N1.2)))))) (brK ((gI M 43 6) = 0) (brK (((gI M 43 4) - 1) ≤ x1) (Q (some (.int (((gI M 43 7) >>> (x2 &&& 31)) &&& 1))) (FR b, M)) (Q (some (.int 0)) (FR b, M))) (Q (some (.int (((gI M 43 7) >>> (x2 &&& 31)) &&& 1))) (FR b, M)))) :
    WP (d + 1) 107 97 0 [.ref 43, .int x1, .int x2] [] 107 (FR b, M) Q := blk 21 ct97 h
/- StyliteOverheard$Planner.walk(LStyliteOverheard$Him;I)V -/
def ct99 : Nat → Bool := fun pc => Nat.beq pc 5 || Nat.beq pc 34 || Nat.beq pc 71
set_option maxRecDepth 100000 in
theorem v99_0 {d : Nat} {b : Bool} {M : M2} {Q : QT} {r1 : Nat} {x2 : Int32} {u3 : Value} {u4 : Value} {u5 : Value} (h : WP (d + 1) 107 99 5 [.ref 43, .ref r1, .int x2, .int x2, .int 0, u5] [] 107 (FR b, M) Q) :
    WP (d + 1) 107 99 0 [.ref 43, .ref r1, .int x2, u3, u4, u5] [] 107 (FR b, M) Q := blk 6 ct99 h
set_option maxRecDepth 100000 in
theorem v99_5 {d : Nat} {b : Bool} {M : M2} {Q : QT} {r1 : Nat} {u2 : Value} {x3 : Int32} {x4 : Int32} {u5 : Value} (h : brK ((gI M 43 4) ≤ x4) (Q none (FR b, M)) (brK (12 ≤ x4) (Q none (FR b, M)) (WP d 107 94 0 [.ref 43, .ref r1, .int x4, U] [] 107 (FR b, M) (rV (fun N1 => N1.1 = FR b ∧ (WP (d + 1) 107 99 34 [.ref 43, .ref r1, u2, .int x3, .int x4, .int 0] [] 107 (FR b, N1.2) Q)))))) :
    WP (d + 1) 107 99 5 [.ref 43, .ref r1, u2, .int x3, .int x4, u5] [] 107 (FR b, M) Q := blk 17 ct99 h
set_option maxRecDepth 100000 in
theorem v99_34 {d : Nat} {b : Bool} {M : M2} {Q : QT} {r1 : Nat} {u2 : Value} {x3 : Int32} {x4 : Int32} {x5 : Int32} (h : brK (9 ≤ x5) (WP (d + 1) 107 99 71 [.ref 43, .ref r1, u2, .int x3, .int x4, .int x5] [] 107 (FR b, M) Q) (WP d 107 95 0 [.ref 43, .int x4, .int x3, .int x5, U] [] 107 (FR b, M) (rI (fun v2 N1 => N1.1 = FR b ∧ (WP d 107 89 0 [.ref 43, .int ((x4 * 256) + x3)] [] 107 (FR b, N1.2) (rI (fun v4 N3 => N3.1 = FR b ∧ (brK (v2 = v4) (WP (d + 1) 107 99 71 [.ref 43, .ref r1, u2, .int x3, .int x4, .int x5] [] 107 (FR b, N3.2) Q) (WP (d + 1) 107 99 34 [.ref 43, .ref r1, u2, .int x3, .int x4, .int (x5 + 1)] [] 107 (FR b, N3.2) Q))))))))) :
    WP (d + 1) 107 99 34 [.ref 43, .ref r1, u2, .int x3, .int x4, .int x5] [] 107 (FR b, M) Q := blk 20 ct99 h
set_option maxRecDepth 100000 in
theorem v99_71 {d : Nat} {b : Bool} {M : M2} {Q : QT} {r1 : Nat} {u2 : Value} {x3 : Int32} {x4 : Int32} {x5 : Int32} (h : iK x4 12 (WP d 107 96 0 [.ref 43, .int ((x4 * 256) + x3), .int x5] [] 107 (FR b, sI M 45 (ix x4) x5) (rI (fun v2 N1 => N1.1 = FR b ∧ (WP d 107 92 0 [.int x3, .int v2, .int x5] [] 107 (FR b, N1.2) (rI (fun v4 N3 => N3.1 = FR b ∧ (WP (d + 1) 107 99 5 [.ref 43, .ref r1, kl u2, .int v4, .int (x4 + 1), .int x5] [] 107 (FR b, N3.2) Q)))))))) :
    WP (d + 1) 107 99 71 [.ref 43, .ref r1, u2, .int x3, .int x4, .int x5] [] 107 (FR b, M) Q := blk 21 ct99 h
/- StyliteOverheard$Planner.remarkAt(I)I -/
def ct100 : Nat → Bool := fun _ => false
set_option maxRecDepth 100000 in
theorem v100_0 {d : Nat} {b : Bool} {M : M2} {Q : QT} {x1 : Int32} (h : brK (x1 < 0) (Q (some (.int (-2))) (FR b, M)) (brK ((gI M 43 4) ≤ x1) (Q (some (.int (-2))) (FR b, M)) (WP d 107 15 0 [.ref 45, .int x1] [] 107 (FR b, M) (rI (fun v2 N1 => N1.1 = FR b ∧ (Q (some (.int v2)) (FR b, N1.2))))))) :
    WP (d + 1) 107 100 0 [.ref 43, .int x1] [] 107 (FR b, M) Q := blk 13 ct100 h
/- StyliteOverheard.recite(II)I -/
def ct101 : Nat → Bool := fun _ => false
set_option maxRecDepth 100000 in
theorem v101_0 {d : Nat} {b : Bool} {M : M2} {Q : QT} {x1 : Int32} {x2 : Int32} {u3 : Value} {u4 : Value} {u5 : Value} (h : WP d 107 18 0 [.ref 4, .int x1] [] 107 (FR b, M) (rA (fun N1 => N1.1 = FR b ∧ (Q (some (.int (-1))) (FR b, N1.2))) (fun q2 N1 => N1.1 = FR b ∧ (brK ((-2) ≤ x2) (oK 107 q2 9 (WP d 107 19 0 [.ref q2, .int 0] [] 107 (FR b, N1.2) (rI (fun v4 N3 => N3.1 = FR b ∧ (brK (v4 = 0) (oK 107 q2 9 (WP d 107 66 0 [.ref q2] [] 107 (FR b, N3.2) (rI (fun v12 N11 => N11.1 = FR b ∧ (Q (some (.int v12)) (FR b, N11.2)))))) (WP d 107 102 0 [.ref 48, .ref q2, .ref 5, .ref 7, U, U] [] 107 (FR b, N3.2) (rL (fun v6 N5 => N5.1 = FR b ∧ (brK (x2 = (-1)) (brK ((lg_cmp v6 0) ≤ 0) (Q (some (.int 0)) (FR b, N5.2)) (Q (some (.int 1)) (FR b, N5.2))) (brK ((lg_cmp v6 0) = 0) (Q (some (.int (-2))) (FR b, N5.2)) (brK (x2 = (-2)) (WP d 107 109 0 [.ref 48, .int (gI N5.2 5 0), U, U, U, U, U, U, U, U] [] 107 (FR b, N5.2) (rI (fun v10 N9 => N9.1 = FR b ∧ (Q (some (.int v10)) (FR b, N9.2))))) (WP d 107 111 0 [.ref 48, .int x2, .int (gI N5.2 5 0), U, U] [] 107 (FR b, N5.2) (rI (fun v8 N7 => N7.1 = FR b ∧ (Q (some (.int v8)) (FR b, N7.2)))))))))))))))) (Q (some (.int (-1))) (FR b, N1.2)))))) :
    WP (d + 1) 107 101 0 [.ref 4, .int x1, .int x2, u3, u4, u5] [] 107 (FR b, M) Q := blk 41 ct101 h
/- StyliteOverheard$Reciter.waysOf(LStyliteOverheard$Shelf;LStyliteOverheard$Him;LStyliteOverheard$Law;)J -/
def ct102 : Nat → Bool := fun pc => Nat.beq pc 5 || Nat.beq pc 80 || Nat.beq pc 92 || Nat.beq pc 146 || Nat.beq pc 178 || Nat.beq pc 186
set_option maxRecDepth 100000 in
theorem v102_0 {d : Nat} {b : Bool} {M : M2} {Q : QT} {r1 : Nat} {r2 : Nat} {u4 : Value} {u5 : Value} (h : WP (d + 1) 107 102 5 [.ref 48, .ref r1, .ref r2, .ref 7, u4, u5] [] 107 (FR b, sI M 48 4 0) Q) :
    WP (d + 1) 107 102 0 [.ref 48, .ref r1, .ref r2, .ref 7, u4, u5] [] 107 (FR b, M) Q := blk 5 ct102 h
set_option maxRecDepth 100000 in
theorem v102_5 {d : Nat} {b : Bool} {M : M2} {Q : QT} {r1 : Nat} {r2 : Nat} {u4 : Value} {u5 : Value} (h : brK (12 ≤ (gI M 48 4)) (WP d 107 68 0 [.ref 49, .ref r2] [] 107 (FR b, M) (rV (fun N1 => N1.1 = FR b ∧ (WP (d + 1) 107 102 80 [.ref 48, .ref r1, .ref r2, .ref 7, .int 0, u5] [] 107 (FR b, N1.2) Q)))) (oK 107 r1 9 (brK ((gI M r1 3) ≤ (gI M 48 4)) (WP d 107 68 0 [.ref 49, .ref r2] [] 107 (FR b, M) (rV (fun N2 => N2.1 = FR b ∧ (WP (d + 1) 107 102 80 [.ref 48, .ref r1, .ref r2, .ref 7, .int 0, u5] [] 107 (FR b, N2.2) Q)))) (oK 107 r1 9 (WP d 107 70 0 [.ref r1, .int (gI M 48 4)] [] 107 (FR b, M) (rI (fun v4 N3 => N3.1 = FR b ∧ (WP d 107 78 0 [.int v4] [] 107 (FR b, N3.2) (rI (fun v6 N5 => N5.1 = FR b ∧ (brK (v6 = 0) (WP d 107 68 0 [.ref 49, .ref r2] [] 107 (FR b, N5.2) (rV (fun N7 => N7.1 = FR b ∧ (WP (d + 1) 107 102 80 [.ref 48, .ref r1, .ref r2, .ref 7, .int 0, u5] [] 107 (FR b, N7.2) Q)))) (oK 107 r1 9 (WP d 107 70 0 [.ref r1, .int (gI N5.2 48 4)] [] 107 (FR b, N5.2) (rI (fun v9 N8 => N8.1 = FR b ∧ (iK (gI N5.2 48 4) 12 (WP (d + 1) 107 102 5 [.ref 48, .ref r1, .ref r2, .ref 7, u4, u5] [] 107 (FR b, sI (sI N8.2 50 (ix (gI N5.2 48 4)) v9) 48 4 ((gI N8.2 48 4) + 1)) Q))))))))))))))))) :
    WP (d + 1) 107 102 5 [.ref 48, .ref r1, .ref r2, .ref 7, u4, u5] [] 107 (FR b, M) Q := blk 33 ct102 h
set_option maxRecDepth 100000 in
theorem v102_80 {d : Nat} {b : Bool} {M : M2} {Q : QT} {u1 : Value} {r2 : Nat} {x4 : Int32} {u5 : Value} (h : brK ((gI M 48 4) ≤ x4) (WP (d + 1) 107 102 146 [.ref 48, u1, .ref r2, .ref 7, .int 0, u5] [] 107 (FR b, M) Q) (WP (d + 1) 107 102 92 [.ref 48, u1, .ref r2, .ref 7, .int x4, .int 0] [] 107 (FR b, M) Q)) :
    WP (d + 1) 107 102 80 [.ref 48, u1, .ref r2, .ref 7, .int x4, u5] [] 107 (FR b, M) Q := blk 8 ct102 h
set_option maxRecDepth 100000 in
theorem v102_92 {d : Nat} {b : Bool} {M : M2} {Q : QT} {u1 : Value} {r2 : Nat} {x4 : Int32} {x5 : Int32} (h : brK (16 ≤ x5) (WP d 107 15 0 [.ref 50, .int x4] [] 107 (FR b, M) (rI (fun v2 N1 => N1.1 = FR b ∧ (WP d 107 73 0 [.ref 49] [] 107 (FR b, sF N1.2 49 2 v2) (rV (fun N3 => N3.1 = FR b ∧ (WP (d + 1) 107 102 80 [.ref 48, u1, .ref r2, .ref 7, .int (x4 + 1), .int x5] [] 107 (FR b, N3.2) Q))))))) (WP d 107 103 0 [.ref 48, .int x4, .int x5, .ref 7, U, U] [] 107 (FR b, M) (rV (fun N4 => N4.1 = FR b ∧ (WP (d + 1) 107 102 92 [.ref 48, u1, .ref r2, .ref 7, .int x4, .int (x5 + 1)] [] 107 (FR b, N4.2) Q))))) :
    WP (d + 1) 107 102 92 [.ref 48, u1, .ref r2, .ref 7, .int x4, .int x5] [] 107 (FR b, M) Q := blk 17 ct102 h
set_option maxRecDepth 100000 in
theorem v102_146 {d : Nat} {b : Bool} {M : M2} {Q : QT} {u1 : Value} {r2 : Nat} {u3 : Value} {x4 : Int32} {u5 : Value} (h : brK (16 ≤ x4) (WP (d + 1) 107 102 178 [.ref 48, u1, .ref r2, kl u3, .int ((gI M 48 4) - 1), u5] [] 107 (FR b, M) Q) (WP d 107 104 0 [.ref 48, .int (gI M 48 4), .int x4, .long 1, U, U] [] 107 (FR b, M) (rV (fun N1 => N1.1 = FR b ∧ (WP (d + 1) 107 102 146 [.ref 48, u1, .ref r2, kl u3, .int (x4 + 1), u5] [] 107 (FR b, N1.2) Q))))) :
    WP (d + 1) 107 102 146 [.ref 48, u1, .ref r2, u3, .int x4, u5] [] 107 (FR b, M) Q := blk 13 ct102 h
set_option maxRecDepth 100000 in
theorem v102_178 {d : Nat} {b : Bool} {M : M2} {Q : QT} {u1 : Value} {r2 : Nat} {u3 : Value} {x4 : Int32} {u5 : Value} (h : brK (x4 < 0) (oK 107 r2 3 (WP d 107 108 0 [.ref 48, .int 0, .int (gI M r2 0), U] [] 107 (FR b, M) (rL (fun v2 N1 => N1.1 = FR b ∧ (Q (some (.long v2)) (FR b, N1.2)))))) (WP (d + 1) 107 102 186 [.ref 48, u1, .ref r2, u3, .int x4, .int 0] [] 107 (FR b, M) Q)) :
    WP (d + 1) 107 102 178 [.ref 48, u1, .ref r2, u3, .int x4, u5] [] 107 (FR b, M) Q := blk 9 ct102 h
set_option maxRecDepth 100000 in
theorem v102_186 {d : Nat} {b : Bool} {M : M2} {Q : QT} {u1 : Value} {r2 : Nat} {u3 : Value} {x4 : Int32} {x5 : Int32} (h : brK (16 ≤ x5) (WP (d + 1) 107 102 178 [.ref 48, u1, .ref r2, kl u3, .int (x4 + (-1)), .int x5] [] 107 (FR b, M) Q) (WP d 107 105 0 [.ref 48, .int x4, .int x5, U, U, U] [] 107 (FR b, M) (rL (fun v2 N1 => N1.1 = FR b ∧ (WP d 107 104 0 [.ref 48, .int x4, .int x5, .long v2, U, U] [] 107 (FR b, N1.2) (rV (fun N3 => N3.1 = FR b ∧ (WP (d + 1) 107 102 186 [.ref 48, u1, .ref r2, u3, .int x4, .int (x5 + 1)] [] 107 (FR b, N3.2) Q)))))))) :
    WP (d + 1) 107 102 186 [.ref 48, u1, .ref r2, u3, .int x4, .int x5] [] 107 (FR b, M) Q := blk 15 ct102 h
/- StyliteOverheard$Reciter.fit(IILStyliteOverheard$Law;)V -/
def ct103 : Nat → Bool := fun pc => Nat.beq pc 14
set_option maxRecDepth 100000 in
theorem v103_0 {d : Nat} {b : Bool} {M : M2} {Q : QT} {x1 : Int32} {x2 : Int32} {u4 : Value} {u5 : Value} (h : WP (d + 1) 107 103 14 [.ref 48, .int x1, .int x2, .ref 7, .int 0, .int 0] [] 107 (FR b, sF M 49 0 x2) Q) :
    WP (d + 1) 107 103 0 [.ref 48, .int x1, .int x2, .ref 7, u4, u5] [] 107 (FR b, M) Q := blk 10 ct103 h
set_option maxRecDepth 100000 in
theorem v103_14 {d : Nat} {b : Bool} {M : M2} {Q : QT} {x1 : Int32} {x2 : Int32} {x4 : Int32} {x5 : Int32} (h : brK (10 ≤ x5) (brK (((x1 * 16) + x2) < 0) (Q none (FR b, M)) (brK (192 ≤ ((x1 * 16) + x2)) (Q none (FR b, M)) (iK ((x1 * 16) + x2) 192 (Q none (FR b, sI M 51 (ix ((x1 * 16) + x2)) x4))))) (WP d 107 60 0 [.ref 7, .ref 49, .int x5, U, U, U] [] 107 (FR b, M) (rI (fun v2 N1 => N1.1 = FR b ∧ (WP d 107 15 0 [.ref 50, .int x1] [] 107 (FR b, N1.2) (rI (fun v4 N3 => N3.1 = FR b ∧ (brK (v2 = v4) (WP (d + 1) 107 103 14 [.ref 48, .int x1, .int x2, .ref 7, .int (x4 ||| (1 <<< (x5 &&& 31))), .int (x5 + 1)] [] 107 (FR b, N3.2) Q) (WP (d + 1) 107 103 14 [.ref 48, .int x1, .int x2, .ref 7, .int (x4 ||| 0), .int (x5 + 1)] [] 107 (FR b, N3.2) Q))))))))) :
    WP (d + 1) 107 103 14 [.ref 48, .int x1, .int x2, .ref 7, .int x4, .int x5] [] 107 (FR b, M) Q := blk 24 ct103 h
/- StyliteOverheard$Reciter.setWays(IIJ)V -/
def ct104 : Nat → Bool := fun _ => false
set_option maxRecDepth 100000 in
theorem v104_0 {d : Nat} {b : Bool} {M : M2} {Q : QT} {x1 : Int32} {x2 : Int32} {x3 : Int64} {u5 : Value} (h : brK (((x1 * 16) + x2) < 0) (Q none (FR b, M)) (brK (208 ≤ ((x1 * 16) + x2)) (Q none (FR b, M)) (iK ((x1 * 16) + x2) 208 (Q none (FR b, sL M 52 (ix ((x1 * 16) + x2)) x3))))) :
    WP (d + 1) 107 104 0 [.ref 48, .int x1, .int x2, .long x3, U, u5] [] 107 (FR b, M) Q := blk 20 ct104 h
/- StyliteOverheard$Reciter.waysFrom(II)J -/
def ct105 : Nat → Bool := fun pc => Nat.beq pc 5
set_option maxRecDepth 100000 in
theorem v105_0 {d : Nat} {b : Bool} {M : M2} {Q : QT} {x1 : Int32} {x2 : Int32} {u3 : Value} {u4 : Value} {u5 : Value} (h : WP (d + 1) 107 105 5 [.ref 48, .int x1, .int x2, .long 0, U, .int 0] [] 107 (FR b, M) Q) :
    WP (d + 1) 107 105 0 [.ref 48, .int x1, .int x2, u3, u4, u5] [] 107 (FR b, M) Q := blk 6 ct105 h
set_option maxRecDepth 100000 in
theorem v105_5 {d : Nat} {b : Bool} {M : M2} {Q : QT} {x1 : Int32} {x2 : Int32} {x3 : Int64} {u4 : Value} {x5 : Int32} (h : brK (10 ≤ x5) (Q (some (.long x3)) (FR b, M)) (WP d 107 106 0 [.ref 48, .int x1, .int x2, .int x5] [] 107 (FR b, M) (rL (fun v2 N1 => N1.1 = FR b ∧ (WP (d + 1) 107 105 5 [.ref 48, .int x1, .int x2, .long (x3 + v2), U, .int (x5 + 1)] [] 107 (FR b, N1.2) Q))))) :
    WP (d + 1) 107 105 5 [.ref 48, .int x1, .int x2, .long x3, u4, .int x5] [] 107 (FR b, M) Q := blk 15 ct105 h
/- StyliteOverheard$Reciter.waysBy(III)J -/
def ct106 : Nat → Bool := fun _ => false
set_option maxRecDepth 100000 in
theorem v106_0 {d : Nat} {b : Bool} {M : M2} {Q : QT} {x1 : Int32} {x2 : Int32} {x3 : Int32} (h : WP d 107 15 0 [.ref 51, .int ((x1 * 16) + x2)] [] 107 (FR b, M) (rI (fun v2 N1 => N1.1 = FR b ∧ (brK (((v2 >>> (x3 &&& 31)) &&& 1) = 0) (Q (some (.long 0)) (FR b, N1.2)) (WP d 107 107 0 [.ref 48, .int x1, .int x2, .int x3] [] 107 (FR b, N1.2) (rI (fun v4 N3 => N3.1 = FR b ∧ (WP d 107 108 0 [.ref 48, .int (x1 + 1), .int v4, U] [] 107 (FR b, N3.2) (rL (fun v6 N5 => N5.1 = FR b ∧ (Q (some (.long v6)) (FR b, N5.2)))))))))))) :
    WP (d + 1) 107 106 0 [.ref 48, .int x1, .int x2, .int x3] [] 107 (FR b, M) Q := blk 25 ct106 h
/- StyliteOverheard$Reciter.moodBehind(III)I -/
def ct107 : Nat → Bool := fun _ => false
set_option maxRecDepth 100000 in
theorem v107_0 {d : Nat} {b : Bool} {M : M2} {Q : QT} {x1 : Int32} {x2 : Int32} {x3 : Int32} (h : WP d 107 15 0 [.ref 50, .int x1] [] 107 (FR b, M) (rI (fun v2 N1 => N1.1 = FR b ∧ (Q (some (.int (((x2 + v2) + x3) - ((x2 + v2) + x3) / 16 * 16))) (FR b, N1.2))))) :
    WP (d + 1) 107 107 0 [.ref 48, .int x1, .int x2, .int x3] [] 107 (FR b, M) Q := blk 12 ct107 h
/- StyliteOverheard$Reciter.waysAt(II)J -/
def ct108 : Nat → Bool := fun _ => false
set_option maxRecDepth 100000 in
theorem v108_0 {d : Nat} {b : Bool} {M : M2} {Q : QT} {x1 : Int32} {x2 : Int32} {u3 : Value} (h : brK (((x1 * 16) + x2) < 0) (Q (some (.long 0)) (FR b, M)) (brK (208 ≤ ((x1 * 16) + x2)) (Q (some (.long 0)) (FR b, M)) (iK ((x1 * 16) + x2) 208 (Q (some (.long (gL M 52 (ix ((x1 * 16) + x2))))) (FR b, M))))) :
    WP (d + 1) 107 108 0 [.ref 48, .int x1, .int x2, u3] [] 107 (FR b, M) Q := blk 20 ct108 h
/- StyliteOverheard$Reciter.sureOnes(I)I -/
def ct109 : Nat → Bool := fun pc => Nat.beq pc 9 || Nat.beq pc 27
set_option maxRecDepth 100000 in
theorem v109_0 {d : Nat} {b : Bool} {M : M2} {Q : QT} {x1 : Int32} {u2 : Value} {u3 : Value} {u4 : Value} {u5 : Value} {u6 : Value} {u7 : Value} {u8 : Value} {u9 : Value} (h : WP (d + 1) 107 109 9 [.ref 48, .int x1, .int 0, .int (1 <<< (x1 &&& 31)), .int 0, u5, u6, u7, u8, u9] [] 107 (FR b, M) Q) :
    WP (d + 1) 107 109 0 [.ref 48, .int x1, u2, u3, u4, u5, u6, u7, u8, u9] [] 107 (FR b, M) Q := blk 10 ct109 h
set_option maxRecDepth 100000 in
theorem v109_9 {d : Nat} {b : Bool} {M : M2} {Q : QT} {u1 : Value} {x2 : Int32} {x3 : Int32} {x4 : Int32} {u5 : Value} {u6 : Value} {u7 : Value} {u8 : Value} {u9 : Value} (h : brK ((gI M 48 4) ≤ x4) (Q (some (.int x2)) (FR b, M)) (WP (d + 1) 107 109 27 [.ref 48, u1, .int x2, .int x3, .int x4, .int 0, .int 0, .int 0, u8, u9] [] 107 (FR b, M) Q)) :
    WP (d + 1) 107 109 9 [.ref 48, u1, .int x2, .int x3, .int x4, u5, u6, u7, u8, u9] [] 107 (FR b, M) Q := blk 12 ct109 h
set_option maxRecDepth 100000 in
theorem v109_27 {d : Nat} {b : Bool} {M : M2} {Q : QT} {u1 : Value} {x2 : Int32} {x3 : Int32} {x4 : Int32} {x5 : Int32} {x6 : Int32} {x7 : Int32} {u8 : Value} {u9 : Value} (h : brK (160 ≤ x7) (WP d 107 110 0 [.int x5] [] 107 (FR b, M) (rI (fun v2 N1 => N1.1 = FR b ∧ (brK (v2 = 1) (WP (d + 1) 107 109 9 [.ref 48, kl u1, .int (x2 + 1), .int x6, .int (x4 + 1), .int x5, .int x6, .int x7, u8, u9] [] 107 (FR b, N1.2) Q) (WP (d + 1) 107 109 9 [.ref 48, kl u1, .int (x2 + 0), .int x6, .int (x4 + 1), .int x5, .int x6, .int x7, u8, u9] [] 107 (FR b, N1.2) Q))))) (brK (((x3 >>> ((x7 / 10) &&& 31)) &&& 1) = 0) (WP (d + 1) 107 109 27 [.ref 48, u1, .int x2, .int x3, .int x4, .int x5, .int x6, .int (x7 + 1), .int (x7 / 10), .int (x7 - x7 / 10 * 10)] [] 107 (FR b, M) Q) (WP d 107 106 0 [.ref 48, .int x4, .int (x7 / 10), .int (x7 - x7 / 10 * 10)] [] 107 (FR b, M) (rL (fun v4 N3 => N3.1 = FR b ∧ (brK ((lg_cmp v4 0) ≤ 0) (WP (d + 1) 107 109 27 [.ref 48, u1, .int x2, .int x3, .int x4, .int x5, .int x6, .int (x7 + 1), .int (x7 / 10), .int (x7 - x7 / 10 * 10)] [] 107 (FR b, N3.2) Q) (WP d 107 107 0 [.ref 48, .int x4, .int (x7 / 10), .int (x7 - x7 / 10 * 10)] [] 107 (FR b, N3.2) (rI (fun v6 N5 => N5.1 = FR b ∧ (WP (d + 1) 107 109 27 [.ref 48, u1, .int x2, .int x3, .int x4, .int (x5 ||| (1 <<< ((x7 - x7 / 10 * 10) &&& 31))), .int (x6 ||| (1 <<< (v6 &&& 31))), .int (x7 + 1), .int (x7 / 10), .int (x7 - x7 / 10 * 10)] [] 107 (FR b, N5.2) Q)))))))))) :
    WP (d + 1) 107 109 27 [.ref 48, u1, .int x2, .int x3, .int x4, .int x5, .int x6, .int x7, u8, u9] [] 107 (FR b, M) Q := blk 45 ct109 h
/- java/lang/Integer.bitCount(I)I -/
def ct110 : Nat → Bool := fun _ => false
set_option maxRecDepth 100000 in
theorem v110_0 {d : Nat} {b : Bool} {M : M2} {Q : QT} {x0 : Int32} (h : Q (some (.int ((((((((x0 - (((x0.toUInt32 >>> ((1 : Int32).toUInt32 &&& Int32.toUInt32 31)).toInt32) &&& 1431655765)) &&& 858993459) + ((((x0 - (((x0.toUInt32 >>> ((1 : Int32).toUInt32 &&& Int32.toUInt32 31)).toInt32) &&& 1431655765)).toUInt32 >>> ((2 : Int32).toUInt32 &&& Int32.toUInt32 31)).toInt32) &&& 858993459)) + (((((x0 - (((x0.toUInt32 >>> ((1 : Int32).toUInt32 &&& Int32.toUInt32 31)).toInt32) &&& 1431655765)) &&& 858993459) + ((((x0 - (((x0.toUInt32 >>> ((1 : Int32).toUInt32 &&& Int32.toUInt32 31)).toInt32) &&& 1431655765)).toUInt32 >>> ((2 : Int32).toUInt32 &&& Int32.toUInt32 31)).toInt32) &&& 858993459)).toUInt32 >>> ((4 : Int32).toUInt32 &&& Int32.toUInt32 31)).toInt32)) &&& 252645135) + (((((((x0 - (((x0.toUInt32 >>> ((1 : Int32).toUInt32 &&& Int32.toUInt32 31)).toInt32) &&& 1431655765)) &&& 858993459) + ((((x0 - (((x0.toUInt32 >>> ((1 : Int32).toUInt32 &&& Int32.toUInt32 31)).toInt32) &&& 1431655765)).toUInt32 >>> ((2 : Int32).toUInt32 &&& Int32.toUInt32 31)).toInt32) &&& 858993459)) + (((((x0 - (((x0.toUInt32 >>> ((1 : Int32).toUInt32 &&& Int32.toUInt32 31)).toInt32) &&& 1431655765)) &&& 858993459) + ((((x0 - (((x0.toUInt32 >>> ((1 : Int32).toUInt32 &&& Int32.toUInt32 31)).toInt32) &&& 1431655765)).toUInt32 >>> ((2 : Int32).toUInt32 &&& Int32.toUInt32 31)).toInt32) &&& 858993459)).toUInt32 >>> ((4 : Int32).toUInt32 &&& Int32.toUInt32 31)).toInt32)) &&& 252645135).toUInt32 >>> ((8 : Int32).toUInt32 &&& Int32.toUInt32 31)).toInt32)) + ((((((((x0 - (((x0.toUInt32 >>> ((1 : Int32).toUInt32 &&& Int32.toUInt32 31)).toInt32) &&& 1431655765)) &&& 858993459) + ((((x0 - (((x0.toUInt32 >>> ((1 : Int32).toUInt32 &&& Int32.toUInt32 31)).toInt32) &&& 1431655765)).toUInt32 >>> ((2 : Int32).toUInt32 &&& Int32.toUInt32 31)).toInt32) &&& 858993459)) + (((((x0 - (((x0.toUInt32 >>> ((1 : Int32).toUInt32 &&& Int32.toUInt32 31)).toInt32) &&& 1431655765)) &&& 858993459) + ((((x0 - (((x0.toUInt32 >>> ((1 : Int32).toUInt32 &&& Int32.toUInt32 31)).toInt32) &&& 1431655765)).toUInt32 >>> ((2 : Int32).toUInt32 &&& Int32.toUInt32 31)).toInt32) &&& 858993459)).toUInt32 >>> ((4 : Int32).toUInt32 &&& Int32.toUInt32 31)).toInt32)) &&& 252645135) + (((((((x0 - (((x0.toUInt32 >>> ((1 : Int32).toUInt32 &&& Int32.toUInt32 31)).toInt32) &&& 1431655765)) &&& 858993459) + ((((x0 - (((x0.toUInt32 >>> ((1 : Int32).toUInt32 &&& Int32.toUInt32 31)).toInt32) &&& 1431655765)).toUInt32 >>> ((2 : Int32).toUInt32 &&& Int32.toUInt32 31)).toInt32) &&& 858993459)) + (((((x0 - (((x0.toUInt32 >>> ((1 : Int32).toUInt32 &&& Int32.toUInt32 31)).toInt32) &&& 1431655765)) &&& 858993459) + ((((x0 - (((x0.toUInt32 >>> ((1 : Int32).toUInt32 &&& Int32.toUInt32 31)).toInt32) &&& 1431655765)).toUInt32 >>> ((2 : Int32).toUInt32 &&& Int32.toUInt32 31)).toInt32) &&& 858993459)).toUInt32 >>> ((4 : Int32).toUInt32 &&& Int32.toUInt32 31)).toInt32)) &&& 252645135).toUInt32 >>> ((8 : Int32).toUInt32 &&& Int32.toUInt32 31)).toInt32)).toUInt32 >>> ((16 : Int32).toUInt32 &&& Int32.toUInt32 31)).toInt32)) &&& 63))) (FR b, M)) :
    WP (d + 1) 107 110 0 [.int x0] [] 107 (FR b, M) Q := blk 43 ct110 h
/- StyliteOverheard$Reciter.remarkAt(II)I -/
def ct111 : Nat → Bool := fun pc => Nat.beq pc 2 || Nat.beq pc 13 || Nat.beq pc 39
set_option maxRecDepth 100000 in
theorem v111_0 {d : Nat} {b : Bool} {M : M2} {Q : QT} {x1 : Int32} {x2 : Int32} {u3 : Value} {u4 : Value} (h : WP (d + 1) 107 111 2 [.ref 48, .int x1, .int x2, .int 0, u4] [] 107 (FR b, M) Q) :
    WP (d + 1) 107 111 0 [.ref 48, .int x1, .int x2, u3, u4] [] 107 (FR b, M) Q := blk 4 ct111 h
set_option maxRecDepth 100000 in
theorem v111_2 {d : Nat} {b : Bool} {M : M2} {Q : QT} {x1 : Int32} {x2 : Int32} {x3 : Int32} {u4 : Value} (h : brK ((gI M 48 4) ≤ x3) (Q (some (.int (-2))) (FR b, M)) (WP (d + 1) 107 111 13 [.ref 48, .int x1, .int x2, .int x3, .int 0] [] 107 (FR b, M) Q)) :
    WP (d + 1) 107 111 2 [.ref 48, .int x1, .int x2, .int x3, u4] [] 107 (FR b, M) Q := blk 8 ct111 h
set_option maxRecDepth 100000 in
theorem v111_13 {d : Nat} {b : Bool} {M : M2} {Q : QT} {x1 : Int32} {x2 : Int32} {x3 : Int32} {x4 : Int32} (h : brK (9 ≤ x4) (WP (d + 1) 107 111 39 [.ref 48, .int x1, .int x2, .int x3, .int x4] [] 107 (FR b, M) Q) (WP d 107 106 0 [.ref 48, .int x3, .int x2, .int x4] [] 107 (FR b, M) (rL (fun v2 N1 => N1.1 = FR b ∧ (brK ((lg_cmp v2 0) = 0) (WP (d + 1) 107 111 13 [.ref 48, .int x1, .int x2, .int x3, .int (x4 + 1)] [] 107 (FR b, N1.2) Q) (WP (d + 1) 107 111 39 [.ref 48, .int x1, .int x2, .int x3, .int x4] [] 107 (FR b, N1.2) Q)))))) :
    WP (d + 1) 107 111 13 [.ref 48, .int x1, .int x2, .int x3, .int x4] [] 107 (FR b, M) Q := blk 15 ct111 h
set_option maxRecDepth 100000 in
theorem v111_39 {d : Nat} {b : Bool} {M : M2} {Q : QT} {x1 : Int32} {x2 : Int32} {x3 : Int32} {x4 : Int32} (h : brK (x3 = x1) (Q (some (.int x4)) (FR b, M)) (WP d 107 107 0 [.ref 48, .int x3, .int x2, .int x4] [] 107 (FR b, M) (rI (fun v2 N1 => N1.1 = FR b ∧ (WP (d + 1) 107 111 2 [.ref 48, .int x1, .int v2, .int (x3 + 1), .int x4] [] 107 (FR b, N1.2) Q))))) :
    WP (d + 1) 107 111 39 [.ref 48, .int x1, .int x2, .int x3, .int x4] [] 107 (FR b, M) Q := blk 13 ct111 h
/- StyliteOverheard.waysTo(I)J -/
def ct112 : Nat → Bool := fun _ => false
set_option maxRecDepth 100000 in
theorem v112_0 {d : Nat} {b : Bool} {M : M2} {Q : QT} {x1 : Int32} {u2 : Value} (h : WP d 107 18 0 [.ref 4, .int x1] [] 107 (FR b, M) (rA (fun N1 => N1.1 = FR b ∧ (Q (some (.long (-9223372036854775808))) (FR b, N1.2))) (fun q2 N1 => N1.1 = FR b ∧ (oK 107 q2 9 (WP d 107 19 0 [.ref q2, .int 0] [] 107 (FR b, N1.2) (rI (fun v4 N3 => N3.1 = FR b ∧ (brK (v4 = 0) (Q (some (.long (-9223372036854775808))) (FR b, N3.2)) (WP d 107 102 0 [.ref 48, .ref q2, .ref 5, .ref 7, U, U] [] 107 (FR b, N3.2) (rL (fun v6 N5 => N5.1 = FR b ∧ (Q (some (.long v6)) (FR b, N5.2))))))))))))) :
    WP (d + 1) 107 112 0 [.ref 4, .int x1, u2] [] 107 (FR b, M) Q := blk 20 ct112 h
/- StyliteOverheard.most(III)I -/
def ct113 : Nat → Bool := fun _ => false
set_option maxRecDepth 100000 in
theorem v113_0 {d : Nat} {b : Bool} {M : M2} {Q : QT} {x1 : Int32} {x2 : Int32} {x3 : Int32} {u4 : Value} (h : brK (x1 < 0) (Q (some (.int (-1))) (FR b, M)) (brK (65536 ≤ x1) (Q (some (.int (-1))) (FR b, M)) (WP d 107 114 0 [.int x2] [] 107 (FR b, M) (rI (fun v2 N1 => N1.1 = FR b ∧ (brK (v2 = 0) (Q (some (.int (-1))) (FR b, N1.2)) (brK ((-1) ≤ x3) (WP d 107 86 0 [.ref 43, .int 1, .int x1, .int (x2 / 1024), .int (x2 - x2 / 1024 * 1024), .ref 5, .ref 7, U] [] 107 (FR b, N1.2) (rI (fun v4 N3 => N3.1 = FR b ∧ (brK (0 ≤ x3) (WP d 107 100 0 [.ref 43, .int x3] [] 107 (FR b, N3.2) (rI (fun v6 N5 => N5.1 = FR b ∧ (Q (some (.int v6)) (FR b, N5.2))))) (Q (some (.int v4)) (FR b, N3.2)))))) (Q (some (.int (-1))) (FR b, N1.2))))))))) :
    WP (d + 1) 107 113 0 [.ref 4, .int x1, .int x2, .int x3, u4] [] 107 (FR b, M) Q := blk 35 ct113 h
/- StyliteOverheard.isPlan(I)Z -/
def ct114 : Nat → Bool := fun _ => false
set_option maxRecDepth 100000 in
theorem v114_0 {d : Nat} {b : Bool} {M : M2} {Q : QT} {x0 : Int32} (h : brK (x0 < 1024) (Q (some (.int 0)) (FR b, M)) (brK (13312 ≤ x0) (Q (some (.int 0)) (FR b, M)) (Q (some (.int 1)) (FR b, M)))) :
    WP (d + 1) 107 114 0 [.int x0] [] 107 (FR b, M) Q := blk 10 ct114 h
/- StyliteOverheard.quiet(II)I -/
def ct115 : Nat → Bool := fun _ => false
set_option maxRecDepth 100000 in
theorem v115_0 {d : Nat} {b : Bool} {M : M2} {Q : QT} {x1 : Int32} {x2 : Int32} {u3 : Value} (h : WP d 107 114 0 [.int x1] [] 107 (FR b, M) (rI (fun v2 N1 => N1.1 = FR b ∧ (brK (v2 = 0) (Q (some (.int (-1))) (FR b, N1.2)) (brK ((-1) ≤ x2) (WP d 107 86 0 [.ref 43, .int 2, .int 0, .int (x1 / 1024), .int (x1 - x1 / 1024 * 1024), .ref 5, .ref 7, U] [] 107 (FR b, N1.2) (rI (fun v4 N3 => N3.1 = FR b ∧ (brK (0 ≤ x2) (WP d 107 100 0 [.ref 43, .int x2] [] 107 (FR b, N3.2) (rI (fun v6 N5 => N5.1 = FR b ∧ (Q (some (.int v6)) (FR b, N5.2))))) (Q (some (.int (-v4))) (FR b, N3.2)))))) (Q (some (.int (-1))) (FR b, N1.2))))))) :
    WP (d + 1) 107 115 0 [.ref 4, .int x1, .int x2, u3] [] 107 (FR b, M) Q := blk 31 ct115 h
/- StyliteOverheard.tellsMost(II)I -/
def ct116 : Nat → Bool := fun pc => Nat.beq pc 36
set_option maxRecDepth 100000 in
theorem v116_0 {d : Nat} {b : Bool} {M : M2} {Q : QT} {x1 : Int32} {x2 : Int32} {u3 : Value} {u4 : Value} {u5 : Value} {u6 : Value} (h : brK (x1 < 1) (Q (some (.int (-1))) (FR b, M)) (brK (12 < x1) (Q (some (.int (-1))) (FR b, M)) (WP d 107 79 0 [.int x2] [] 107 (FR b, M) (rI (fun v2 N1 => N1.1 = FR b ∧ (brK (v2 = 0) (Q (some (.int (-1))) (FR b, N1.2)) (WP d 107 67 0 [.ref 4, .null, .int x1, U] [] 107 (FR b, N1.2) (rV (fun N3 => N3.1 = FR b ∧ (WP (d + 1) 107 116 36 [.ref 4, .int x1, .int x2, .int 0, .int (x1 + 1), .int 1, u6] [] 107 (FR b, N3.2) Q)))))))))) :
    WP (d + 1) 107 116 0 [.ref 4, .int x1, .int x2, u3, u4, u5, u6] [] 107 (FR b, M) Q := blk 23 ct116 h
set_option maxRecDepth 100000 in
theorem v116_36 {d : Nat} {b : Bool} {M : M2} {Q : QT} {x1 : Int32} {x2 : Int32} {x3 : Int32} {x4 : Int32} {x5 : Int32} {u6 : Value} (h : brK (10 ≤ x5) (brK (x2 = 0) (Q (some (.int x3)) (FR b, M)) (Q (some (.int x4)) (FR b, M))) (WP d 107 117 0 [.ref 4, .int x5, .int x1, U, U, U] [] 107 (FR b, M) (rI (fun v2 N1 => N1.1 = FR b ∧ (brK (x4 ≤ v2) (WP (d + 1) 107 116 36 [.ref 4, .int x1, .int x2, .int x3, .int x4, .int (x5 + 1), .int v2] [] 107 (FR b, N1.2) Q) (WP (d + 1) 107 116 36 [.ref 4, .int x1, .int x2, .int x5, .int v2, .int (x5 + 1), .int v2] [] 107 (FR b, N1.2) Q)))))) :
    WP (d + 1) 107 116 36 [.ref 4, .int x1, .int x2, .int x3, .int x4, .int x5, u6] [] 107 (FR b, M) Q := blk 19 ct116 h
/- StyliteOverheard.agreeing(II)I -/
def ct117 : Nat → Bool := fun pc => Nat.beq pc 16 || Nat.beq pc 40
set_option maxRecDepth 100000 in
theorem v117_0 {d : Nat} {b : Bool} {M : M2} {Q : QT} {x1 : Int32} {x2 : Int32} {u3 : Value} {u4 : Value} {u5 : Value} (h : WP d 107 68 0 [.ref 6, .ref 5] [] 107 (FR b, M) (rV (fun N1 => N1.1 = FR b ∧ (WP (d + 1) 107 117 16 [.ref 4, .int x1, .int x2, .int 0, .int 0, u5] [] 107 (FR b, N1.2) Q)))) :
    WP (d + 1) 107 117 0 [.ref 4, .int x1, .int x2, u3, u4, u5] [] 107 (FR b, M) Q := blk 11 ct117 h
set_option maxRecDepth 100000 in
theorem v117_16 {d : Nat} {b : Bool} {M : M2} {Q : QT} {x1 : Int32} {x2 : Int32} {x3 : Int32} {x4 : Int32} {u5 : Value} (h : brK (x2 ≤ x4) (Q (some (.int x3)) (FR b, M)) (brK (x4 = 0) (WP (d + 1) 107 117 40 [.ref 4, .int x1, .int x2, .int x3, .int x4, u5] [.int x1, .ref 7, .ref 6] 107 (FR b, M) Q) (WP (d + 1) 107 117 40 [.ref 4, .int x1, .int x2, .int x3, .int x4, u5] [.int 0, .ref 7, .ref 6] 107 (FR b, M) Q))) :
    WP (d + 1) 107 117 16 [.ref 4, .int x1, .int x2, .int x3, .int x4, u5] [] 107 (FR b, M) Q := blk 13 ct117 h
set_option maxRecDepth 100000 in
theorem v117_40 {d : Nat} {b : Bool} {M : M2} {Q : QT} {x1 : Int32} {x2 : Int32} {x3 : Int32} {x4 : Int32} {u5 : Value} {s0 : Int32} (h : WP d 107 71 0 [.ref 6, .ref 7, .int s0, U, U] [] 107 (FR b, M) (rI (fun v2 N1 => N1.1 = FR b ∧ (WP d 107 15 0 [.ref 54, .int x4] [] 107 (FR b, N1.2) (rI (fun v4 N3 => N3.1 = FR b ∧ (brK ((v2 - v2 / 16 * 16) = (v4 - v4 / 16 * 16)) (WP (d + 1) 107 117 16 [.ref 4, .int x1, .int x2, .int (x3 + 1), .int (x4 + 1), .int v2] [] 107 (FR b, N3.2) Q) (WP (d + 1) 107 117 16 [.ref 4, .int x1, .int x2, .int (x3 + 0), .int (x4 + 1), .int v2] [] 107 (FR b, N3.2) Q)))))))) :
    WP (d + 1) 107 117 40 [.ref 4, .int x1, .int x2, .int x3, .int x4, u5] [.int s0, .ref 7, .ref 6] 107 (FR b, M) Q := blk 21 ct117 h
/- StyliteOverheard.sold(III)I -/
def ct118 : Nat → Bool := fun pc => Nat.beq pc 37 || Nat.beq pc 87
set_option maxRecDepth 100000 in
theorem v118_0 {d : Nat} {b : Bool} {M : M2} {Q : QT} {x1 : Int32} {x2 : Int32} {x3 : Int32} {u4 : Value} {u5 : Value} {u6 : Value} (h : WP d 107 18 0 [.ref 4, .int x1] [] 107 (FR b, M) (rA (fun N1 => N1.1 = FR b ∧ (Q (some (.int (-1))) (FR b, N1.2))) (fun q2 N1 => N1.1 = FR b ∧ (WP d 107 65 0 [.int x2] [] 107 (FR b, N1.2) (rI (fun v4 N3 => N3.1 = FR b ∧ (brK (v4 = 0) (Q (some (.int (-1))) (FR b, N3.2)) (brK (x3 = (-1)) (WP (d + 1) 107 118 37 [.ref 4, .int x1, .int x2, .int x3, .ref q2, u5, u6] [] 107 (FR b, N3.2) Q) (WP d 107 27 0 [.ref 18, .int x3] [] 107 (FR b, N3.2) (rI (fun v6 N5 => N5.1 = FR b ∧ (brK (v6 = 0) (Q (some (.int (-1))) (FR b, N5.2)) (WP (d + 1) 107 118 37 [.ref 4, .int x1, .int x2, .int x3, .ref q2, u5, u6] [] 107 (FR b, N5.2) Q))))))))))))) :
    WP (d + 1) 107 118 0 [.ref 4, .int x1, .int x2, .int x3, u4, u5, u6] [] 107 (FR b, M) Q := blk 20 ct118 h
set_option maxRecDepth 100000 in
theorem v118_37 {d : Nat} {b : Bool} {M : M2} {Q : QT} {u1 : Value} {x2 : Int32} {x3 : Int32} {r4 : Nat} {u5 : Value} {u6 : Value} (h : oK 107 r4 9 (WP d 107 19 0 [.ref r4, .int 0] [] 107 (FR b, M) (rI (fun v2 N1 => N1.1 = FR b ∧ (brK (v2 = 0) (oK 107 r4 9 (WP d 107 66 0 [.ref r4] [] 107 (FR b, N1.2) (rI (fun v9 N8 => N8.1 = FR b ∧ (Q (some (.int v9)) (FR b, N8.2)))))) (WP d 107 67 0 [.ref 4, .ref r4, .int x2, U] [] 107 (FR b, N1.2) (rV (fun N3 => N3.1 = FR b ∧ (brK (x3 < 0) (WP (d + 1) 107 118 87 [.ref 4, u1, .int x2, .int x3, .ref r4, .int 0, .int 0] [] 107 (FR b, N3.2) Q) (WP d 107 15 0 [.ref 21, .int x3] [] 107 (FR b, N3.2) (rI (fun v5 N4 => N4.1 = FR b ∧ (WP d 107 119 0 [.ref 4, .int x3, .int v5, .int x2] [] 107 (FR b, N4.2) (rI (fun v7 N6 => N6.1 = FR b ∧ (Q (some (.int v7)) (FR b, N6.2))))))))))))))))) :
    WP (d + 1) 107 118 37 [.ref 4, u1, .int x2, .int x3, .ref r4, u5, u6] [] 107 (FR b, M) Q := blk 21 ct118 h
set_option maxRecDepth 100000 in
theorem v118_87 {d : Nat} {b : Bool} {M : M2} {Q : QT} {u1 : Value} {x2 : Int32} {u3 : Value} {u4 : Value} {x5 : Int32} {x6 : Int32} (h : brK ((gI M 18 0) ≤ x6) (Q (some (.int x5)) (FR b, M)) (WP d 107 15 0 [.ref 21, .int x6] [] 107 (FR b, M) (rI (fun v2 N1 => N1.1 = FR b ∧ (WP d 107 120 0 [.ref 4, .int x6, .int v2, .int x2] [] 107 (FR b, N1.2) (rI (fun v4 N3 => N3.1 = FR b ∧ (WP (d + 1) 107 118 87 [.ref 4, u1, .int x2, u3, kl u4, .int (x5 + v4), .int (x6 + 1)] [] 107 (FR b, N3.2) Q)))))))) :
    WP (d + 1) 107 118 87 [.ref 4, u1, .int x2, u3, u4, .int x5, .int x6] [] 107 (FR b, M) Q := blk 21 ct118 h
