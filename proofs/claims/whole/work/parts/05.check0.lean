/-! THE TABLES AGREE WITH THE BYTES -/
def len1 (i : Instr) : Nat := match i with
  | .bipush _ | .ldc _ | .iload _ | .lload _ | .aload _ | .istore _ | .lstore _ | .astore _ | .newarray _ => 2
  | .sipush _ | .ldc_w _ | .ldc2_w _ | .iinc _ _ | .goto _ | .ifCond _ _ | .if_icmp _ _ | .ifnull _ | .ifnonnull _ | .getfield _ | .putfield _ | .getstatic _ | .new _ | .anewarray _ | .invokevirtual _ | .invokestatic _ | .invokespecial _ => 3
  | _ => 1
def d5 (t u : Nat × Nat × Nat × Nat × Nat) : Bool := Nat.beq t.1 u.1 && (Nat.beq t.2.1 u.2.1 && (Nat.beq t.2.2.1 u.2.2.1 && (Nat.beq t.2.2.2.1 u.2.2.2.1 && Nat.beq t.2.2.2.2 u.2.2.2.2)))
def wIs (c : Nat) (t : Nat × Nat × Nat × Nat × Nat) : Bool := Nat.blt c NW && d5 (wQ c) t
def dI (a b : Int) : Bool := decide (a = b)
/-- a table's cases from lo on -/
def okT (pc : Nat) : Int → List Int → List (Int32 × Nat) → Bool
  | _, [], [] => true
  | lo, o :: os, (k, t) :: cs => decide (k.toInt = lo) && (dI (pc + o) t && okT pc (lo + 1) os cs)
  | _, _, _ => false
def okL (pc : Nat) : List (Int × Int) → List (Int32 × Nat) → Bool
  | [], [] => true
  | (m, o) :: os, (k, t) :: cs => decide (k.toInt = m) && (dI (pc + o) t && okL pc os cs)
  | _, _ => false
def okB (mu pc : Nat) (i : Instr) (nx a b c : Nat) (v : Int32) (w : Int64) (cs : List (Int32 × Nat)) : Bool := match i with
  | .iconst k => decide (Int32.ofInt k = v)
  | .bipush k => decide ((Int8.ofInt k).toInt32 = v)
  | .sipush k => decide ((Int16.ofInt k).toInt32 = v)
  | .ldc x | .ldc_w x => wIs c (4, mo mu, x, 0, 0) && decide (wV c = v)
  | .lconst k => decide (Int64.ofNat (k : Nat) = w)
  | .ldc2_w x => wIs c (5, mo mu, x, 0, 0) && decide (wL c = w)
  | .iload x | .lload x | .aload x | .istore x | .lstore x | .astore x => Nat.beq x a
  | .iload_n x | .lload_n x | .aload_n x | .istore_n x | .lstore_n x | .astore_n x => Nat.beq x.val a
  | .iinc x k => Nat.beq x a && decide (Int32.ofInt k = v)
  | .goto o | .ifCond _ o | .if_icmp _ o | .ifnull o | .ifnonnull o => dI (pc + o) a
  | .tableswitch d lo hi os => dI (pc + d) a && (okT pc lo os.toList cs && dI (hi + 1) (lo + os.size))
  | .lookupswitch d ps => dI (pc + d) a && (okL pc ps.toList cs && (ps.toList.zip (ps.toList.drop 1)).all (fun (p, q) => p.1 < q.1))
  | .getfield x => wIs c (0, mo mu, x, b, a) && (Nat.blt a (cq b).2.2 && Nat.blt b 13)
  | .putfield x => wIs c (0, mo mu, x, b, a) && (Nat.blt a (cq b).2.2 && (Nat.blt b 13 && (!(cF b a).2.2.2 || (decide ((cF b a).1 = cnm (mo mu)) && decide (mnm mu = "<init>")))))
  | .getstatic x => wIs c (17, mo mu, x, a, 0) && Nat.blt a 3
  | .new x => wIs c (3, mo mu, x, a, 0) && Nat.blt a 13
  | .anewarray x => wIs c (3, mo mu, x, 9, 0)
  | .newarray t => match t with
    | .int => Nat.beq a 20
    | .byte => Nat.beq a 21
    | .short => Nat.beq a 22
    | .long => Nat.beq a 23
    | _ => false
  | .invokevirtual x => wIs c (1, mo mu, x, a, 0) && (Nat.blt a 303 && (!(mS a) && (Nat.blt (mo a) 13 && wIs (wS a) (9, 0, 0, a, 0))))
  | .invokestatic x => bif Nat.beq b 6 then wIs c (1, mo mu, x, 900, 0) else bif Nat.beq b 7 then wIs c (1, mo mu, x, 98, 0) else bif Nat.beq b 8 then wIs c (1, mo mu, x, 74, 0) else bif Nat.beq b 1 then wIs c (1, mo mu, x, a, 0) && (Nat.blt a 303 && (mS a && Nat.blt (mo a) 15)) else wIs c (2, mo mu, x, a, 0) && (Nat.blt a 303 && (mS a && Nat.blt (mo a) 15))
  | .invokespecial x => bif Nat.beq b 5 then wIs c (1, mo mu, x, 1, 0) else bif Nat.beq b 3 then wIs c (1, mo mu, x, a, 0) && (Nat.blt a 303 && (decide (mnm a = "<init>") && (Nat.blt (mo a) 13 && (Nat.beq (rz a) 0 && !(mS a))))) else wIs c (2, mo mu, x, a, 0) && (Nat.blt a 303 && (decide (mnm a = "<init>") && (Nat.blt (mo a) 13 && (Nat.beq (rz a) 0 && !(mS a)))))
  | _ => true
def okOp (mu pc : Nat) (o : Op) : Bool := match o with
  | (.nop, _, _, _, _, _, _, _) => true
  | (.tableswitch d lo hi os, nx, a, b, c, v, w, cs) => okB mu pc (.tableswitch d lo hi os) nx a b c v w cs && (Nat.blt pc nx && decide (decode (Bc mu) pc = .ok (.tableswitch d lo hi os, nx - pc)))
  | (.lookupswitch d ps, nx, a, b, c, v, w, cs) => okB mu pc (.lookupswitch d ps) nx a b c v w cs && (Nat.blt pc nx && decide (decode (Bc mu) pc = .ok (.lookupswitch d ps, nx - pc)))
  | (i, nx, a, b, c, v, w, cs) => okB mu pc i nx a b c v w cs && (Nat.beq nx (pc + len1 i) && decide (decode (Bc mu) pc = .ok (i, len1 i)))
theorem bl_c {α : Type} {n pc : Nat} {x y : α} (h : n ≤ pc) : (bif Nat.blt pc n then x else y) = y := by
  have : Nat.blt pc n = false := by
    cases hb : Nat.blt pc n with
    | false => rfl
    | true => exact absurd (Nat.le_of_ble_eq_true hb) (by omega)
  rw [this]
  rfl
theorem ok_all {mu n : Nat} {f g : Nat → Op} (h : (List.range n).all (fun pc => okOp mu pc (f pc)) = true) (hb : ∀ pc, f pc = bif Nat.blt pc n then g pc else oBad) : ∀ pc, okOp mu pc (f pc) = true := by
  intro pc
  by_cases hp : pc < n
  · exact List.all_eq_true.mp h pc (List.mem_range.mpr hp)
  · rw [hb pc, bl_c (by omega)]
    rfl
/-- the method's operations are right -/
def okMu (mu : Nat) : Prop := ∀ pc, okOp mu pc (codeOf mu pc) = true
theorem ok_s {i : Nat} {p : Nat → Prop} (h : ∀ a, a < i → p a) (hi : p i) : ∀ a, a < i + 1 → p a := by
  intro a ha
  by_cases q : a = i
  · subst q; exact hi
  · exact h a (by omega)
theorem ok_z {p : Nat → Prop} : ∀ a, a < 0 → p a := fun a h => absurd h (Nat.not_lt_zero a)

set_option maxRecDepth 100000 in
theorem kM0_a : (List.range 163).all (fun pc => okOp 0 pc (kM0 pc)) = true := by decide +kernel
theorem kM0_k : okMu 0 := ok_all (f := kM0) kM0_a (fun _ => rfl)
set_option maxRecDepth 100000 in
theorem kM1_a : (List.range 1).all (fun pc => okOp 1 pc (kM1 pc)) = true := by decide +kernel
theorem kM1_k : okMu 1 := ok_all (f := kM1) kM1_a (fun _ => rfl)
set_option maxRecDepth 100000 in
theorem kM2_a : (List.range 27).all (fun pc => okOp 2 pc (kM2 pc)) = true := by decide +kernel
theorem kM2_k : okMu 2 := ok_all (f := kM2) kM2_a (fun _ => rfl)
set_option maxRecDepth 100000 in
theorem kM3_a : (List.range 43).all (fun pc => okOp 3 pc (kM3 pc)) = true := by decide +kernel
theorem kM3_k : okMu 3 := ok_all (f := kM3) kM3_a (fun _ => rfl)
set_option maxRecDepth 100000 in
theorem kM4_a : (List.range 29).all (fun pc => okOp 4 pc (kM4 pc)) = true := by decide +kernel
theorem kM4_k : okMu 4 := ok_all (f := kM4) kM4_a (fun _ => rfl)
set_option maxRecDepth 100000 in
theorem kM5_a : (List.range 61).all (fun pc => okOp 5 pc (kM5 pc)) = true := by decide +kernel
theorem kM5_k : okMu 5 := ok_all (f := kM5) kM5_a (fun _ => rfl)
set_option maxRecDepth 100000 in
theorem kM6_a : (List.range 53).all (fun pc => okOp 6 pc (kM6 pc)) = true := by decide +kernel
theorem kM6_k : okMu 6 := ok_all (f := kM6) kM6_a (fun _ => rfl)
set_option maxRecDepth 100000 in
theorem kM7_a : (List.range 13).all (fun pc => okOp 7 pc (kM7 pc)) = true := by decide +kernel
theorem kM7_k : okMu 7 := ok_all (f := kM7) kM7_a (fun _ => rfl)
set_option maxRecDepth 100000 in
theorem kM8_a : (List.range 37).all (fun pc => okOp 8 pc (kM8 pc)) = true := by decide +kernel
theorem kM8_k : okMu 8 := ok_all (f := kM8) kM8_a (fun _ => rfl)
set_option maxRecDepth 100000 in
theorem kM9_a : (List.range 21).all (fun pc => okOp 9 pc (kM9 pc)) = true := by decide +kernel
theorem kM9_k : okMu 9 := ok_all (f := kM9) kM9_a (fun _ => rfl)
set_option maxRecDepth 100000 in
theorem kM10_a : (List.range 42).all (fun pc => okOp 10 pc (kM10 pc)) = true := by decide +kernel
theorem kM10_k : okMu 10 := ok_all (f := kM10) kM10_a (fun _ => rfl)
set_option maxRecDepth 100000 in
theorem kM11_a : (List.range 42).all (fun pc => okOp 11 pc (kM11 pc)) = true := by decide +kernel
theorem kM11_k : okMu 11 := ok_all (f := kM11) kM11_a (fun _ => rfl)
set_option maxRecDepth 100000 in
theorem kM12_a : (List.range 13).all (fun pc => okOp 12 pc (kM12 pc)) = true := by decide +kernel
theorem kM12_k : okMu 12 := ok_all (f := kM12) kM12_a (fun _ => rfl)
set_option maxRecDepth 100000 in
theorem kM13_a : (List.range 31).all (fun pc => okOp 13 pc (kM13 pc)) = true := by decide +kernel
theorem kM13_k : okMu 13 := ok_all (f := kM13) kM13_a (fun _ => rfl)
set_option maxRecDepth 100000 in
theorem kM14_a : (List.range 21).all (fun pc => okOp 14 pc (kM14 pc)) = true := by decide +kernel
theorem kM14_k : okMu 14 := ok_all (f := kM14) kM14_a (fun _ => rfl)
set_option maxRecDepth 100000 in
theorem kM15_a : (List.range 18).all (fun pc => okOp 15 pc (kM15 pc)) = true := by decide +kernel
theorem kM15_k : okMu 15 := ok_all (f := kM15) kM15_a (fun _ => rfl)
set_option maxRecDepth 100000 in
theorem kM16_a : (List.range 59).all (fun pc => okOp 16 pc (kM16 pc)) = true := by decide +kernel
theorem kM16_k : okMu 16 := ok_all (f := kM16) kM16_a (fun _ => rfl)
set_option maxRecDepth 100000 in
theorem kM17_a : (List.range 77).all (fun pc => okOp 17 pc (kM17 pc)) = true := by decide +kernel
theorem kM17_k : okMu 17 := ok_all (f := kM17) kM17_a (fun _ => rfl)
set_option maxRecDepth 100000 in
theorem kM18_a : (List.range 24).all (fun pc => okOp 18 pc (kM18 pc)) = true := by decide +kernel
theorem kM18_k : okMu 18 := ok_all (f := kM18) kM18_a (fun _ => rfl)
set_option maxRecDepth 100000 in
theorem kM19_a : (List.range 22).all (fun pc => okOp 19 pc (kM19 pc)) = true := by decide +kernel
theorem kM19_k : okMu 19 := ok_all (f := kM19) kM19_a (fun _ => rfl)
set_option maxRecDepth 100000 in
theorem kM20_a : (List.range 132).all (fun pc => okOp 20 pc (kM20 pc)) = true := by decide +kernel
theorem kM20_k : okMu 20 := ok_all (f := kM20) kM20_a (fun _ => rfl)
set_option maxRecDepth 100000 in
theorem kM21_a : (List.range 32).all (fun pc => okOp 21 pc (kM21 pc)) = true := by decide +kernel
theorem kM21_k : okMu 21 := ok_all (f := kM21) kM21_a (fun _ => rfl)
set_option maxRecDepth 100000 in
theorem kM22_a : (List.range 22).all (fun pc => okOp 22 pc (kM22 pc)) = true := by decide +kernel
theorem kM22_k : okMu 22 := ok_all (f := kM22) kM22_a (fun _ => rfl)
set_option maxRecDepth 100000 in
theorem kM23_a : (List.range 38).all (fun pc => okOp 23 pc (kM23 pc)) = true := by decide +kernel
theorem kM23_k : okMu 23 := ok_all (f := kM23) kM23_a (fun _ => rfl)
set_option maxRecDepth 100000 in
theorem kM24_a : (List.range 55).all (fun pc => okOp 24 pc (kM24 pc)) = true := by decide +kernel
theorem kM24_k : okMu 24 := ok_all (f := kM24) kM24_a (fun _ => rfl)
set_option maxRecDepth 100000 in
theorem kM25_a : (List.range 54).all (fun pc => okOp 25 pc (kM25 pc)) = true := by decide +kernel
theorem kM25_k : okMu 25 := ok_all (f := kM25) kM25_a (fun _ => rfl)
set_option maxRecDepth 100000 in
theorem kM26_a : (List.range 18).all (fun pc => okOp 26 pc (kM26 pc)) = true := by decide +kernel
theorem kM26_k : okMu 26 := ok_all (f := kM26) kM26_a (fun _ => rfl)
set_option maxRecDepth 100000 in
theorem kM27_a : (List.range 18).all (fun pc => okOp 27 pc (kM27 pc)) = true := by decide +kernel
theorem kM27_k : okMu 27 := ok_all (f := kM27) kM27_a (fun _ => rfl)
set_option maxRecDepth 100000 in
theorem kM28_a : (List.range 27).all (fun pc => okOp 28 pc (kM28 pc)) = true := by decide +kernel
theorem kM28_k : okMu 28 := ok_all (f := kM28) kM28_a (fun _ => rfl)
set_option maxRecDepth 100000 in
theorem kM29_a : (List.range 75).all (fun pc => okOp 29 pc (kM29 pc)) = true := by decide +kernel
theorem kM29_k : okMu 29 := ok_all (f := kM29) kM29_a (fun _ => rfl)
set_option maxRecDepth 100000 in
theorem kM30_a : (List.range 60).all (fun pc => okOp 30 pc (kM30 pc)) = true := by decide +kernel
theorem kM30_k : okMu 30 := ok_all (f := kM30) kM30_a (fun _ => rfl)
set_option maxRecDepth 100000 in
theorem kM31_a : (List.range 40).all (fun pc => okOp 31 pc (kM31 pc)) = true := by decide +kernel
theorem kM31_k : okMu 31 := ok_all (f := kM31) kM31_a (fun _ => rfl)
set_option maxRecDepth 100000 in
theorem kM32_a : (List.range 94).all (fun pc => okOp 32 pc (kM32 pc)) = true := by decide +kernel
theorem kM32_k : okMu 32 := ok_all (f := kM32) kM32_a (fun _ => rfl)
set_option maxRecDepth 100000 in
theorem kM33_a : (List.range 103).all (fun pc => okOp 33 pc (kM33 pc)) = true := by decide +kernel
theorem kM33_k : okMu 33 := ok_all (f := kM33) kM33_a (fun _ => rfl)
set_option maxRecDepth 100000 in
theorem kM34_a : (List.range 23).all (fun pc => okOp 34 pc (kM34 pc)) = true := by decide +kernel
theorem kM34_k : okMu 34 := ok_all (f := kM34) kM34_a (fun _ => rfl)
set_option maxRecDepth 100000 in
theorem kM35_a : (List.range 53).all (fun pc => okOp 35 pc (kM35 pc)) = true := by decide +kernel
theorem kM35_k : okMu 35 := ok_all (f := kM35) kM35_a (fun _ => rfl)
set_option maxRecDepth 100000 in
theorem kM36_a : (List.range 24).all (fun pc => okOp 36 pc (kM36 pc)) = true := by decide +kernel
theorem kM36_k : okMu 36 := ok_all (f := kM36) kM36_a (fun _ => rfl)
set_option maxRecDepth 100000 in
theorem kM37_a : (List.range 37).all (fun pc => okOp 37 pc (kM37 pc)) = true := by decide +kernel
theorem kM37_k : okMu 37 := ok_all (f := kM37) kM37_a (fun _ => rfl)
set_option maxRecDepth 100000 in
theorem kM38_a : (List.range 21).all (fun pc => okOp 38 pc (kM38 pc)) = true := by decide +kernel
theorem kM38_k : okMu 38 := ok_all (f := kM38) kM38_a (fun _ => rfl)
set_option maxRecDepth 100000 in
theorem kM39_a : (List.range 39).all (fun pc => okOp 39 pc (kM39 pc)) = true := by decide +kernel
theorem kM39_k : okMu 39 := ok_all (f := kM39) kM39_a (fun _ => rfl)
set_option maxRecDepth 100000 in
theorem kM40_a : (List.range 61).all (fun pc => okOp 40 pc (kM40 pc)) = true := by decide +kernel
theorem kM40_k : okMu 40 := ok_all (f := kM40) kM40_a (fun _ => rfl)
set_option maxRecDepth 100000 in
theorem kM41_a : (List.range 11).all (fun pc => okOp 41 pc (kM41 pc)) = true := by decide +kernel
theorem kM41_k : okMu 41 := ok_all (f := kM41) kM41_a (fun _ => rfl)
set_option maxRecDepth 100000 in
theorem kM42_a : (List.range 55).all (fun pc => okOp 42 pc (kM42 pc)) = true := by decide +kernel
theorem kM42_k : okMu 42 := ok_all (f := kM42) kM42_a (fun _ => rfl)
set_option maxRecDepth 100000 in
theorem kM43_a : (List.range 50).all (fun pc => okOp 43 pc (kM43 pc)) = true := by decide +kernel
theorem kM43_k : okMu 43 := ok_all (f := kM43) kM43_a (fun _ => rfl)
set_option maxRecDepth 100000 in
theorem kM44_a : (List.range 50).all (fun pc => okOp 44 pc (kM44 pc)) = true := by decide +kernel
theorem kM44_k : okMu 44 := ok_all (f := kM44) kM44_a (fun _ => rfl)
set_option maxRecDepth 100000 in
theorem kM45_a : (List.range 43).all (fun pc => okOp 45 pc (kM45 pc)) = true := by decide +kernel
theorem kM45_k : okMu 45 := ok_all (f := kM45) kM45_a (fun _ => rfl)
set_option maxRecDepth 100000 in
theorem kM46_a : (List.range 80).all (fun pc => okOp 46 pc (kM46 pc)) = true := by decide +kernel
theorem kM46_k : okMu 46 := ok_all (f := kM46) kM46_a (fun _ => rfl)
set_option maxRecDepth 100000 in
theorem kM47_a : (List.range 80).all (fun pc => okOp 47 pc (kM47 pc)) = true := by decide +kernel
theorem kM47_k : okMu 47 := ok_all (f := kM47) kM47_a (fun _ => rfl)
set_option maxRecDepth 100000 in
theorem kM48_a : (List.range 62).all (fun pc => okOp 48 pc (kM48 pc)) = true := by decide +kernel
theorem kM48_k : okMu 48 := ok_all (f := kM48) kM48_a (fun _ => rfl)
set_option maxRecDepth 100000 in
theorem kM49_a : (List.range 41).all (fun pc => okOp 49 pc (kM49 pc)) = true := by decide +kernel
theorem kM49_k : okMu 49 := ok_all (f := kM49) kM49_a (fun _ => rfl)
set_option maxRecDepth 100000 in
theorem kM50_a : (List.range 18).all (fun pc => okOp 50 pc (kM50 pc)) = true := by decide +kernel
theorem kM50_k : okMu 50 := ok_all (f := kM50) kM50_a (fun _ => rfl)
set_option maxRecDepth 100000 in
theorem kM51_a : (List.range 61).all (fun pc => okOp 51 pc (kM51 pc)) = true := by decide +kernel
theorem kM51_k : okMu 51 := ok_all (f := kM51) kM51_a (fun _ => rfl)
set_option maxRecDepth 100000 in
theorem kM52_a : (List.range 33).all (fun pc => okOp 52 pc (kM52 pc)) = true := by decide +kernel
theorem kM52_k : okMu 52 := ok_all (f := kM52) kM52_a (fun _ => rfl)
set_option maxRecDepth 100000 in
theorem kM53_a : (List.range 42).all (fun pc => okOp 53 pc (kM53 pc)) = true := by decide +kernel
theorem kM53_k : okMu 53 := ok_all (f := kM53) kM53_a (fun _ => rfl)
set_option maxRecDepth 100000 in
theorem kM54_a : (List.range 86).all (fun pc => okOp 54 pc (kM54 pc)) = true := by decide +kernel
theorem kM54_k : okMu 54 := ok_all (f := kM54) kM54_a (fun _ => rfl)
set_option maxRecDepth 100000 in
theorem kM55_a : (List.range 30).all (fun pc => okOp 55 pc (kM55 pc)) = true := by decide +kernel
theorem kM55_k : okMu 55 := ok_all (f := kM55) kM55_a (fun _ => rfl)
set_option maxRecDepth 100000 in
theorem kM56_a : (List.range 39).all (fun pc => okOp 56 pc (kM56 pc)) = true := by decide +kernel
theorem kM56_k : okMu 56 := ok_all (f := kM56) kM56_a (fun _ => rfl)
set_option maxRecDepth 100000 in
theorem kM57_a : (List.range 58).all (fun pc => okOp 57 pc (kM57 pc)) = true := by decide +kernel
theorem kM57_k : okMu 57 := ok_all (f := kM57) kM57_a (fun _ => rfl)
set_option maxRecDepth 100000 in
theorem kM58_a : (List.range 24).all (fun pc => okOp 58 pc (kM58 pc)) = true := by decide +kernel
theorem kM58_k : okMu 58 := ok_all (f := kM58) kM58_a (fun _ => rfl)
set_option maxRecDepth 100000 in
theorem kM59_a : (List.range 16).all (fun pc => okOp 59 pc (kM59 pc)) = true := by decide +kernel
theorem kM59_k : okMu 59 := ok_all (f := kM59) kM59_a (fun _ => rfl)
set_option maxRecDepth 100000 in
theorem kM60_a : (List.range 127).all (fun pc => okOp 60 pc (kM60 pc)) = true := by decide +kernel
theorem kM60_k : okMu 60 := ok_all (f := kM60) kM60_a (fun _ => rfl)
set_option maxRecDepth 100000 in
theorem kM61_a : (List.range 233).all (fun pc => okOp 61 pc (kM61 pc)) = true := by decide +kernel
theorem kM61_k : okMu 61 := ok_all (f := kM61) kM61_a (fun _ => rfl)
set_option maxRecDepth 100000 in
theorem kM62_a : (List.range 91).all (fun pc => okOp 62 pc (kM62 pc)) = true := by decide +kernel
theorem kM62_k : okMu 62 := ok_all (f := kM62) kM62_a (fun _ => rfl)
set_option maxRecDepth 100000 in
theorem kM63_a : (List.range 181).all (fun pc => okOp 63 pc (kM63 pc)) = true := by decide +kernel
theorem kM63_k : okMu 63 := ok_all (f := kM63) kM63_a (fun _ => rfl)
set_option maxRecDepth 100000 in
theorem kM64_a : (List.range 128).all (fun pc => okOp 64 pc (kM64 pc)) = true := by decide +kernel
theorem kM64_k : okMu 64 := ok_all (f := kM64) kM64_a (fun _ => rfl)
set_option maxRecDepth 100000 in
theorem kM65_a : (List.range 17).all (fun pc => okOp 65 pc (kM65 pc)) = true := by decide +kernel
theorem kM65_k : okMu 65 := ok_all (f := kM65) kM65_a (fun _ => rfl)
set_option maxRecDepth 100000 in
theorem kM66_a : (List.range 15).all (fun pc => okOp 66 pc (kM66 pc)) = true := by decide +kernel
theorem kM66_k : okMu 66 := ok_all (f := kM66) kM66_a (fun _ => rfl)
set_option maxRecDepth 100000 in
theorem kM67_a : (List.range 64).all (fun pc => okOp 67 pc (kM67 pc)) = true := by decide +kernel
theorem kM67_k : okMu 67 := ok_all (f := kM67) kM67_a (fun _ => rfl)
set_option maxRecDepth 100000 in
theorem kM68_a : (List.range 57).all (fun pc => okOp 68 pc (kM68 pc)) = true := by decide +kernel
theorem kM68_k : okMu 68 := ok_all (f := kM68) kM68_a (fun _ => rfl)
set_option maxRecDepth 100000 in
theorem kM69_a : (List.range 19).all (fun pc => okOp 69 pc (kM69 pc)) = true := by decide +kernel
theorem kM69_k : okMu 69 := ok_all (f := kM69) kM69_a (fun _ => rfl)
set_option maxRecDepth 100000 in
theorem kM70_a : (List.range 23).all (fun pc => okOp 70 pc (kM70 pc)) = true := by decide +kernel
theorem kM70_k : okMu 70 := ok_all (f := kM70) kM70_a (fun _ => rfl)
set_option maxRecDepth 100000 in
theorem kM71_a : (List.range 52).all (fun pc => okOp 71 pc (kM71 pc)) = true := by decide +kernel
theorem kM71_k : okMu 71 := ok_all (f := kM71) kM71_a (fun _ => rfl)
set_option maxRecDepth 100000 in
theorem kM72_a : (List.range 31).all (fun pc => okOp 72 pc (kM72 pc)) = true := by decide +kernel
theorem kM72_k : okMu 72 := ok_all (f := kM72) kM72_a (fun _ => rfl)
set_option maxRecDepth 100000 in
theorem kM73_a : (List.range 32).all (fun pc => okOp 73 pc (kM73 pc)) = true := by decide +kernel
theorem kM73_k : okMu 73 := ok_all (f := kM73) kM73_a (fun _ => rfl)
set_option maxRecDepth 100000 in
theorem kM74_a : (List.range 11).all (fun pc => okOp 74 pc (kM74 pc)) = true := by decide +kernel
theorem kM74_k : okMu 74 := ok_all (f := kM74) kM74_a (fun _ => rfl)
set_option maxRecDepth 100000 in
theorem kM75_a : (List.range 45).all (fun pc => okOp 75 pc (kM75 pc)) = true := by decide +kernel
theorem kM75_k : okMu 75 := ok_all (f := kM75) kM75_a (fun _ => rfl)
theorem ok_to19 : ∀ mu, mu < 19 → okMu mu := (ok_s (ok_s (ok_s (ok_s (ok_s (ok_s (ok_s (ok_s (ok_s (ok_s (ok_s (ok_s (ok_s (ok_s (ok_s (ok_s (ok_s (ok_s (ok_s ok_z kM0_k) kM1_k) kM2_k) kM3_k) kM4_k) kM5_k) kM6_k) kM7_k) kM8_k) kM9_k) kM10_k) kM11_k) kM12_k) kM13_k) kM14_k) kM15_k) kM16_k) kM17_k) kM18_k)
theorem ok_to38 : ∀ mu, mu < 38 → okMu mu := (ok_s (ok_s (ok_s (ok_s (ok_s (ok_s (ok_s (ok_s (ok_s (ok_s (ok_s (ok_s (ok_s (ok_s (ok_s (ok_s (ok_s (ok_s (ok_s ok_to19 kM19_k) kM20_k) kM21_k) kM22_k) kM23_k) kM24_k) kM25_k) kM26_k) kM27_k) kM28_k) kM29_k) kM30_k) kM31_k) kM32_k) kM33_k) kM34_k) kM35_k) kM36_k) kM37_k)
theorem ok_to57 : ∀ mu, mu < 57 → okMu mu := (ok_s (ok_s (ok_s (ok_s (ok_s (ok_s (ok_s (ok_s (ok_s (ok_s (ok_s (ok_s (ok_s (ok_s (ok_s (ok_s (ok_s (ok_s (ok_s ok_to38 kM38_k) kM39_k) kM40_k) kM41_k) kM42_k) kM43_k) kM44_k) kM45_k) kM46_k) kM47_k) kM48_k) kM49_k) kM50_k) kM51_k) kM52_k) kM53_k) kM54_k) kM55_k) kM56_k)
theorem ok_to76 : ∀ mu, mu < 76 → okMu mu := (ok_s (ok_s (ok_s (ok_s (ok_s (ok_s (ok_s (ok_s (ok_s (ok_s (ok_s (ok_s (ok_s (ok_s (ok_s (ok_s (ok_s (ok_s (ok_s ok_to57 kM57_k) kM58_k) kM59_k) kM60_k) kM61_k) kM62_k) kM63_k) kM64_k) kM65_k) kM66_k) kM67_k) kM68_k) kM69_k) kM70_k) kM71_k) kM72_k) kM73_k) kM74_k) kM75_k)
