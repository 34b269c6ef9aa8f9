/-! THE ABSTRACT MACHINE: memory, one operation, runs -/
abbrev Rf : Type := Nat → Nat → Option Nat
abbrev M2 : Type := (Nat → Nat → Int32) × (Nat → Nat → Int64)
abbrev Mm : Type := Rf × M2
def gI (M : M2) (r k : Nat) : Int32 := M.1 r k
def gL (M : M2) (r k : Nat) : Int64 := M.2 r k
def sI (M : M2) (r k : Nat) (v : Int32) : M2 := (fun a j => if a = r ∧ j = k then v else M.1 a j, M.2)
def sL (M : M2) (r k : Nat) (v : Int64) : M2 := (M.1, fun a j => if a = r ∧ j = k then v else M.2 a j)
/-- the same, the slot looked at first: for fields -/
def sF (M : M2) (r k : Nat) (v : Int32) : M2 := (fun a j => if j = k ∧ a = r then v else M.1 a j, M.2)
theorem sF_eq (M : M2) (r k : Nat) (v : Int32) : sF M r k v = sI M r k v := by
  unfold sF sI
  congr 1
  funext a j
  simp only [and_comm]
/-- a field's store, by its class: of the classes with many objects the slot first -/
def sP (c : Nat) (M : M2) (r k : Nat) (v : Int32) : M2 := bif (Nat.beq c 2 || (Nat.beq c 3 || Nat.beq c 9)) then sF M r k v else sI M r k v
theorem sP_eq (c : Nat) (M : M2) (r k : Nat) (v : Int32) : sP c M r k v = sI M r k v := by
  unfold sP
  cases (Nat.beq c 2 || (Nat.beq c 3 || Nat.beq c 9))
  · rfl
  · exact sF_eq M r k v
def uR (R : Rf) (r k : Nat) (v : Option Nat) : Rf := fun a j => if a = r ∧ j = k then v else R a j
/-- a new cell -/
def zR (R : Rf) (r : Nat) : Rf := fun a j => if a = r then none else R a j
def zM (M : M2) (r : Nat) : M2 := (fun a j => if a = r then 0 else M.1 a j, fun a j => if a = r then 0 else M.2 a j)
def cI (M : M2) (s sp d dp n : Nat) : M2 := (fun a j => if a = d ∧ dp ≤ j ∧ j < dp + n then M.1 s (sp + (j - dp)) else M.1 a j, M.2)
def cL (M : M2) (s sp d dp n : Nat) : M2 := (M.1, fun a j => if a = d ∧ dp ≤ j ∧ j < dp + n then M.2 s (sp + (j - dp)) else M.2 a j)
/-- an index as a number -/
def ix (i : Int32) : Nat := i.toBitVec.toNat
/-- unset -/
abbrev U : Value := .retAddr 0
def kl (v : Value) : Value := match v with
  | .long _ => U
  | .double _ => U
  | v => v
def gl : List Value → Nat → Value
  | [], _ => U
  | v :: _, 0 => v
  | _ :: r, i + 1 => gl r i
/-- a store of a one-word value: what lies a place below is no long any more -/
def st1 : List Value → Nat → Value → List Value
  | [], _, _ => []
  | _ :: r, 0, v => v :: r
  | u :: r, 1, v => kl u :: st1 r 0 v
  | u :: r, i + 2, v => u :: st1 r (i + 1) v
def st2 : List Value → Nat → Value → List Value
  | [], _, _ => []
  | _ :: r, 0, v => v :: st1 r 0 U
  | u :: r, 1, v => kl u :: st2 r 0 v
  | u :: r, i + 2, v => u :: st2 r (i + 1) v
def argL : List Value → List Value
  | [] => []
  | .long x :: r => .long x :: U :: argL r
  | .double x :: r => .double x :: U :: argL r
  | v :: r => v :: argL r
def pad : List Value → Nat → List Value
  | [], 0 => []
  | [], n + 1 => U :: pad [] n
  | v :: r, 0 => v :: r
  | v :: r, n + 1 => v :: pad r n
def lcl (mu : Nat) (args : List Value) : List Value := pad (argL args) (mL mu)
/-- what a call gives -/
def rV (f : Mm → Prop) : Option Value → Mm → Prop := fun r M => match r with
  | none => f M
  | _ => False
def rI (f : Int32 → Mm → Prop) : Option Value → Mm → Prop := fun r M => match r with
  | some (.int x) => f x M
  | _ => False
def rL (f : Int64 → Mm → Prop) : Option Value → Mm → Prop := fun r M => match r with
  | some (.long x) => f x M
  | _ => False
def rA (g : Mm → Prop) (f : Nat → Mm → Prop) : Option Value → Mm → Prop := fun r M => match r with
  | some (.ref x) => f x M
  | some .null => g M
  | _ => False
/-- a condition that goes by itself where it can be reckoned -/
def bK (b : Bool) (P : Prop) : Prop := bif b then P else False
def iK (i : Int32) (n : Nat) (P : Prop) : Prop := bif Nat.blt (ix i) n then P else (ix i < n ∧ P)
def nzK (y : Int32) (P : Prop) : Prop := bif Nat.blt 0 (ix y) then P else (y ≠ 0 ∧ P)
def oK (n r c : Nat) (P : Prop) : Prop := bif (Nat.blt r n && Nat.beq (kd r) c) then P else False
def o2K (n r c e : Nat) (P : Prop) : Prop := bif (Nat.blt r n && (Nat.beq (kd r) c || Nat.beq (kd r) e)) then P else False
def rK (x : Option Nat) (f : Nat → Prop) : Prop := match x with
  | none => False
  | some a => f a
def brK (c : Prop) (a b : Prop) : Prop := (c → a) ∧ (¬ c → b)
def swK (x : Int32) (f : Nat → Prop) (d : Nat) : List (Int32 × Nat) → Prop
  | [] => f d
  | (k, t) :: r => (x = k → f t) ∧ (¬ x = k → swK x f d r)
/-- the length of an array, its ints (the script's cell holds its length first) -/
def lenI (M : M2) (r : Nat) : Int32 := bif Nat.beq (kd r) 25 then gI M r 0 else Int32.ofNat (ln r)
def lenN (M : M2) (r : Nat) : Nat := bif Nat.beq (kd r) 25 then ix (gI M r 0) else ln r
def ldX (M : M2) (r : Nat) (i : Int32) : Int32 := bif Nat.beq (kd r) 25 then gI M r (ix i + 1) else gI M r (ix i)
def rdI (n r : Nat) (P : Prop) : Prop := bif (Nat.blt r n && (Nat.beq (kd r) 20 || (Nat.beq (kd r) 26 || Nat.beq (kd r) 25))) then P else False
def rdN (n r : Nat) (P : Prop) : Prop := bif (Nat.blt r n && Nat.ble 20 (kd r)) then P else False
/-- what is on the stack -/
def pI (st : List Value) (f : Int32 → List Value → Prop) : Prop := match st with
  | .int x :: r => f x r
  | _ => False
def pII (st : List Value) (f : Int32 → Int32 → List Value → Prop) : Prop := match st with
  | .int y :: .int x :: r => f x y r
  | _ => False
def pL (st : List Value) (f : Int64 → List Value → Prop) : Prop := match st with
  | .long x :: r => f x r
  | _ => False
def pLL (st : List Value) (f : Int64 → Int64 → List Value → Prop) : Prop := match st with
  | .long y :: .long x :: r => f x y r
  | _ => False
def pLI (st : List Value) (f : Int64 → Int32 → List Value → Prop) : Prop := match st with
  | .int y :: .long x :: r => f x y r
  | _ => False
def pR (st : List Value) (f : Nat → List Value → Prop) : Prop := match st with
  | .ref a :: r => f a r
  | _ => False
def pA (st : List Value) (g : List Value → Prop) (f : Nat → List Value → Prop) : Prop := match st with
  | .ref a :: r => f a r
  | .null :: r => g r
  | _ => False
def pIR (st : List Value) (f : Int32 → Nat → List Value → Prop) : Prop := match st with
  | .int i :: .ref a :: r => f i a r
  | _ => False
def pRR (st : List Value) (f : Nat → Nat → List Value → Prop) : Prop := match st with
  | .ref v :: .ref a :: r => f v a r
  | _ => False
def pIIR (st : List Value) (f : Int32 → Int32 → Nat → List Value → Prop) : Prop := match st with
  | .int x :: .int i :: .ref a :: r => f x i a r
  | _ => False
def pLIR (st : List Value) (f : Int64 → Int32 → Nat → List Value → Prop) : Prop := match st with
  | .long x :: .int i :: .ref a :: r => f x i a r
  | _ => False
def pRIR (st : List Value) (f : Nat → Int32 → Nat → List Value → Prop) : Prop := match st with
  | .ref x :: .int i :: .ref a :: r => f x i a r
  | _ => False
def pCpy (st : List Value) (f : Int32 → Int32 → Nat → Int32 → Nat → List Value → Prop) : Prop := match st with
  | .int n :: .int dp :: .ref d :: .int sp :: .ref s :: r => f n dp d sp s r
  | _ => False
def vI (v : Value) (f : Int32 → Prop) : Prop := match v with
  | .int x => f x
  | _ => False
def vL (v : Value) (f : Int64 → Prop) : Prop := match v with
  | .long x => f x
  | _ => False
def vA (v : Value) (g : Prop) (f : Nat → Prop) : Prop := match v with
  | .ref x => f x
  | .null => g
  | _ => False
def pDup2 (st : List Value) (g : Int64 → List Value → Prop) (f : Value → Value → List Value → Prop) : Prop := match st with
  | .long x :: r => g x r
  | .int x :: .int y :: r => f (.int x) (.int y) r
  | .int x :: .ref y :: r => f (.int x) (.ref y) r
  | _ => False
def pDup (st : List Value) (f : Value → List Value → Prop) : Prop := match st with
  | .int x :: r => f (.int x) r
  | .ref x :: r => f (.ref x) r
  | _ => False
def cats (l : List Value) : Nat := (l.map fun v => v.category).sum
/-- what is behind a call, by the kind of what it gives -/
def rKd (k : Nat) (f : List Value → Mm → Prop) : Option Value → Mm → Prop :=
  bif Nat.beq k 0 then rV (fun M => f [] M) else bif Nat.beq k 2 then rL (fun x M => f [.long x] M) else bif Nat.beq k 3 then rA (fun M => f [.null] M) (fun x M => f [.ref x] M) else rI (fun x M => f [.int x] M)
def imx (x y : Int32) : Int32 := if x < y then y else x
def imn (x y : Int32) : Int32 := if y < x then y else x
abbrev KT : Type := Nat → List Value → List Value → Nat → Mm → Prop
abbrev QT : Type := Option Value → Mm → Prop
abbrev CT : Type := Nat → Nat → Nat → List Value → Nat → Mm → QT → Prop
/-- does a method leave the references as they are -/
def fx (mu : Nat) : Bool := (bif Nat.blt mu 40 then (bif Nat.blt mu 13 then false else (bif Nat.blt mu 38 then true else false)) else (bif Nat.blt mu 179 then (bif Nat.blt mu 178 then true else false) else (bif Nat.blt mu 303 then true else false)))
def rF (b : Bool) (R : Rf) (f : List Value → Mm → Prop) : List Value → Mm → Prop := bif b then (fun v M' => M'.1 = R ∧ f v (R, M'.2)) else f
theorem rF_e {b : Bool} {R : Rf} {f : List Value → Mm → Prop} {v : List Value} {M : Mm} (h : rF b R f v M) : f v M := by
  cases b with
  | false => exact h
  | true =>
    obtain ⟨h1, h2⟩ := h
    subst h1
    exact h2
theorem mn_rF {b : Bool} {R : Rf} {f g : List Value → Mm → Prop} (h : ∀ v M, f v M → g v M) (v : List Value) (M : Mm) : rF b R f v M → rF b R g v M := by
  cases b with
  | false => exact h v M
  | true => exact fun q => ⟨q.1, h _ _ q.2⟩
def callK (nE d n mu k : Nat) (st : List Value) (K : KT) (C : CT) (nx : Nat) (ls : List Value) (M : Mm) : Prop := match d with
  | 0 => False
  | d' + 1 => bK (Nat.ble k st.length && (Nat.ble (cats (st.drop k)) 8 && (Nat.ble (n + mA mu) nE && Nat.ble (argL (st.take k).reverse).length (mL mu)))) (C d' (n + mA mu) mu (lcl mu (st.take k).reverse) n M (rKd (rz mu) (rF (fx mu) M.1 (fun v M' => K nx ls (v ++ st.drop k) (n + mA mu) M'))))
def cpK (n q0 q1 : Nat) (M : Mm) (f : Mm → Prop) (sp dp cn : Int32) : Prop :=
  bif (Nat.blt q0 n && (Nat.blt q1 n && (Nat.beq (kd q0) 20 && Nat.beq (kd q1) 20))) then (ix sp + ix cn ≤ ln q0 ∧ ix dp + ix cn ≤ ln q1 ∧ f (M.1, cI M.2 q0 (ix sp) q1 (ix dp) (ix cn))) else
  bif (Nat.blt q0 n && (Nat.blt q1 n && (Nat.beq (kd q0) 23 && Nat.beq (kd q1) 23))) then (ix sp + ix cn ≤ ln q0 ∧ ix dp + ix cn ≤ ln q1 ∧ f (M.1, cL M.2 q0 (ix sp) q1 (ix dp) (ix cn))) else False
/-- the receiver of a call -/
def rcK (n c : Nat) (st : List Value) (P : Prop) : Prop := match st with
  | .ref r :: _ => oK n r c P
  | _ => False
/-- one operation: what must hold that it goes on with K, calls with C, ends with Q -/
def stepW (nE d n z : Nat) (o : Op) (K : KT) (C : CT) (Q : QT) (ls st : List Value) (M : Mm) : Prop := match o with
  | (i, nx, a, b, _, v, w, cs) => match i with
    | .iconst _ | .bipush _ | .sipush _ | .ldc _ | .ldc_w _ => K nx ls (.int v :: st) n M
    | .lconst _ | .ldc2_w _ => K nx ls (.long w :: st) n M
    | .aconst_null => K nx ls (.null :: st) n M
    | .iload _ | .iload_n _ => vI (gl ls a) (fun x => K nx ls (.int x :: st) n M)
    | .lload _ | .lload_n _ => vL (gl ls a) (fun x => K nx ls (.long x :: st) n M)
    | .aload _ | .aload_n _ => vA (gl ls a) (K nx ls (.null :: st) n M) (fun x => K nx ls (.ref x :: st) n M)
    | .istore _ | .istore_n _ => bK (Nat.blt a ls.length) (pI st (fun x r => K nx (st1 ls a (.int x)) (r) n M))
    | .lstore _ | .lstore_n _ => bK (Nat.blt (a + 1) ls.length) (pL st (fun x r => K nx (st2 ls a (.long x)) (r) n M))
    | .astore _ | .astore_n _ => bK (Nat.blt a ls.length) (pA st (fun r => K nx (st1 ls a .null) (r) n M) (fun x r => K nx (st1 ls a (.ref x)) (r) n M))
    | .iinc _ _ => bK (Nat.blt a ls.length) (vI (gl ls a) (fun x => K nx (st1 ls a (.int (x + v))) (st) n M))
    | .iadd => pII st (fun x y r => K nx ls (.int (x + y) :: r) n M)
    | .isub => pII st (fun x y r => K nx ls (.int (x - y) :: r) n M)
    | .imul => pII st (fun x y r => K nx ls (.int (x * y) :: r) n M)
    | .iand => pII st (fun x y r => K nx ls (.int (x &&& y) :: r) n M)
    | .ior => pII st (fun x y r => K nx ls (.int (x ||| y) :: r) n M)
    | .ixor => pII st (fun x y r => K nx ls (.int (x ^^^ y) :: r) n M)
    | .ishl => pII st (fun x y r => K nx ls (.int (x <<< (y &&& 31)) :: r) n M)
    | .ishr => pII st (fun x y r => K nx ls (.int (x >>> (y &&& 31)) :: r) n M)
    | .iushr => pII st (fun x y r => K nx ls (.int ((x.toUInt32 >>> (y.toUInt32 &&& Int32.toUInt32 31)).toInt32) :: r) n M)
    | .idiv => pII st (fun x y r => nzK y (K nx ls (.int (x / y) :: r) n M))
    | .irem => pII st (fun x y r => nzK y (K nx ls (.int (x - x / y * y) :: r) n M))
    | .ineg => pI st (fun x r => K nx ls (.int (-x) :: r) n M)
    | .ladd => pLL st (fun x y r => K nx ls (.long (x + y) :: r) n M)
    | .land => pLL st (fun x y r => K nx ls (.long (x &&& y) :: r) n M)
    | .lor => pLL st (fun x y r => K nx ls (.long (x ||| y) :: r) n M)
    | .lxor => pLL st (fun x y r => K nx ls (.long (x ^^^ y) :: r) n M)
    | .lcmp => pLL st (fun x y r => K nx ls (.int (lg_cmp x y) :: r) n M)
    | .lshl => pLI st (fun x y r => K nx ls (.long (x <<< (y.toInt64 &&& 63)) :: r) n M)
    | .lushr => pLI st (fun x y r => K nx ls (.long ((x.toUInt64 >>> (y.toInt64.toUInt64 &&& Int64.toUInt64 63)).toInt64) :: r) n M)
    | .i2l => pI st (fun x r => K nx ls (.long x.toInt64 :: r) n M)
    | .l2i => pL st (fun x r => K nx ls (.int x.toInt32 :: r) n M)
    | .i2b => pI st (fun x r => K nx ls (.int x.toInt8.toInt32 :: r) n M)
    | .i2s => pI st (fun x r => K nx ls (.int x.toInt16.toInt32 :: r) n M)
    | .goto _ => K a ls (st) n M
    | .ifCond .eq _ => pI st (fun x r => brK (x = 0) (K a ls (r) n M) (K nx ls (r) n M))
    | .ifCond .ne _ => pI st (fun x r => brK (x = 0) (K nx ls (r) n M) (K a ls (r) n M))
    | .ifCond .lt _ => pI st (fun x r => brK (x < 0) (K a ls (r) n M) (K nx ls (r) n M))
    | .ifCond .ge _ => pI st (fun x r => brK (0 ≤ x) (K a ls (r) n M) (K nx ls (r) n M))
    | .ifCond .gt _ => pI st (fun x r => brK (0 < x) (K a ls (r) n M) (K nx ls (r) n M))
    | .ifCond .le _ => pI st (fun x r => brK (x ≤ 0) (K a ls (r) n M) (K nx ls (r) n M))
    | .if_icmp .eq _ => pII st (fun x y r => brK (x = y) (K a ls (r) n M) (K nx ls (r) n M))
    | .if_icmp .ne _ => pII st (fun x y r => brK (x = y) (K nx ls (r) n M) (K a ls (r) n M))
    | .if_icmp .lt _ => pII st (fun x y r => brK (x < y) (K a ls (r) n M) (K nx ls (r) n M))
    | .if_icmp .ge _ => pII st (fun x y r => brK (y ≤ x) (K a ls (r) n M) (K nx ls (r) n M))
    | .if_icmp .gt _ => pII st (fun x y r => brK (y < x) (K a ls (r) n M) (K nx ls (r) n M))
    | .if_icmp .le _ => pII st (fun x y r => brK (x ≤ y) (K a ls (r) n M) (K nx ls (r) n M))
    | .ifnull _ => pA st (fun r => K a ls (r) n M) (fun _ r => K nx ls (r) n M)
    | .ifnonnull _ => pA st (fun r => K nx ls (r) n M) (fun _ r => K a ls (r) n M)
    | .tableswitch _ _ _ _ | .lookupswitch _ _ => pI st (fun x r => swK x (fun t => K t ls (r) n M) a cs)
    | .getfield _ => pR st (fun q r => oK n q b (bif Nat.beq (fk b a) 2 then rK (M.1 q a) (fun x => K nx ls (.ref x :: r) n M) else K nx ls (.int (gI M.2 q a) :: r) n M))
    | .putfield _ => bif Nat.beq (fk b a) 2 then pRR st (fun x q r => oK n q b (K nx ls (r) n (uR M.1 q a (some x), M.2))) else pIR st (fun x q r => oK n q b (bif Nat.beq (fk b a) 3 then iK x 2 (K nx ls (r) n (M.1, sP b M.2 q a x)) else K nx ls (r) n (M.1, sP b M.2 q a x)))
    | .getstatic _ => K nx ls (.ref a :: st) n M
    | .arraylength => pR st (fun q r => rdN n q (K nx ls (.int (lenI M.2 q) :: r) n M))
    | .iaload => pIR st (fun i q r => rdI n q (iK i (lenN M.2 q) (K nx ls (.int (ldX M.2 q i) :: r) n M)))
    | .baload => pIR st (fun i q r => oK n q 21 (iK i (ln q) (K nx ls (.int (gI M.2 q (ix i)) :: r) n M)))
    | .saload => pIR st (fun i q r => oK n q 22 (iK i (ln q) (K nx ls (.int (gI M.2 q (ix i)) :: r) n M)))
    | .laload => pIR st (fun i q r => oK n q 23 (iK i (ln q) (K nx ls (.long (gL M.2 q (ix i)) :: r) n M)))
    | .aaload => pIR st (fun i q r => oK n q 24 (iK i (ln q) (rK (M.1 q (ix i)) (fun x => K nx ls (.ref x :: r) n M))))
    | .iastore => pIIR st (fun x i q r => oK n q 20 (iK i (ln q) (K nx ls (r) n (M.1, sI M.2 q (ix i) x))))
    | .bastore => pIIR st (fun x i q r => oK n q 21 (iK i (ln q) (K nx ls (r) n (M.1, sI M.2 q (ix i) x.toInt8.toInt32))))
    | .sastore => pIIR st (fun x i q r => oK n q 22 (iK i (ln q) (K nx ls (r) n (M.1, sI M.2 q (ix i) x.toInt16.toInt32))))
    | .lastore => pLIR st (fun x i q r => oK n q 23 (iK i (ln q) (K nx ls (r) n (M.1, sL M.2 q (ix i) x))))
    | .aastore => pRIR st (fun x i q r => oK n q 24 (oK n x 9 (iK i (ln q) (K nx ls (r) n (uR M.1 q (ix i) (some x), M.2)))))
    | .new _ => bK (Nat.blt n nE && Nat.beq (kd n) a) (K nx ls (.ref n :: st) (n + 1) (zR M.1 n, zM M.2 n))
    | .newarray _ => bK (Nat.blt n nE && Nat.beq (kd n) a) (pI st (fun x r => bK (Nat.beq (ix x) (ln n)) (K nx ls (.ref n :: r) (n + 1) (zR M.1 n, zM M.2 n))))
    | .anewarray _ => bK (Nat.blt n nE && Nat.beq (kd n) 24) (pI st (fun x r => bK (Nat.beq (ix x) (ln n)) (K nx ls (.ref n :: r) (n + 1) (zR M.1 n, zM M.2 n))))
    | .dup => pDup st (fun x r => K nx ls (x :: x :: r) n M)
    | .dup2 => pDup2 st (fun x r => K nx ls (.long x :: .long x :: r) n M) (fun x y r => K nx ls (x :: y :: x :: y :: r) n M)
    | .pop => pDup st (fun _ r => K nx ls (r) n M)
    | .invokevirtual _ => rcK n (mc a) (st.drop (mN a)) (callK nE d n a (mN a + 1) st K C nx ls M)
    | .invokestatic _ => bif Nat.beq b 7 then (match d with | 0 => False | _ + 1 => pII st (fun x y r => bK (Nat.ble (cats r) 8) (K nx ls (.int (imx x y) :: r) n M))) else bif Nat.beq b 8 then (match d with | 0 => False | _ + 1 => pII st (fun x y r => bK (Nat.ble (cats r) 8) (K nx ls (.int (imn x y) :: r) n M))) else bif Nat.beq b 6 then (match d with | 0 => False | _ + 1 => pCpy st (fun cn dp q1 sp q0 r => bK (Nat.ble (cats r) 8) (cpK n q0 q1 M (fun M' => K nx ls r n M') sp dp cn))) else callK nE d n a (mN a) st K C nx ls M
    | .invokespecial _ => bif Nat.beq b 5 then (match d with | 0 => False | _ + 1 => pR st (fun _ r => bK (Nat.ble (cats r) 8) (K nx ls (r) n M))) else rcK n (mc a) (st.drop (mN a)) (callK nE d n a (mN a + 1) st K C nx ls M)
    | .ireturn => bK (Nat.beq n nE) (match st with | [.int x] => (bif Nat.beq z 4 then iK x 2 (Q (some (.int x)) M) else bK (Nat.beq z 1) (Q (some (.int x)) M)) | _ => False)
    | .lreturn => bK (Nat.beq n nE) (match st with | [.long x] => bK (Nat.beq z 2) (Q (some (.long x)) M) | _ => False)
    | .areturn => bK (Nat.beq n nE) (match st with | [.ref x] => bK (Nat.beq z 3) (Q (some (.ref x)) M) | [.null] => bK (Nat.beq z 3) (Q (some .null) M) | _ => False)
    | .return_ => bK (Nat.beq n nE) (match st with | [] => bK (Nat.beq z 0) (Q none M) | _ => False)
    | _ => False
/-- a property of runs that holds wherever it holds behind the next step -/
def Cl (P : Nat → Nat → Nat → Nat → List Value → List Value → Nat → Mm → QT → Prop) : Prop :=
  ∀ (d nE mu pc : Nat) (ls st : List Value) (n : Nat) (M : Mm) (Q : QT), stepW nE d n (rz mu) (codeOf mu pc) (fun pc' ls' st' n' M' => P d nE mu pc' ls' st' n' M' Q) (fun d' nE' mu' ls' n' M' Q' => P d' nE' mu' 0 ls' [] n' M' Q') Q ls st M → P d nE mu pc ls st n M Q
/-- the method's run from there on comes to an end with Q -/
def WP (d nE mu pc : Nat) (ls st : List Value) (n : Nat) (M : Mm) (Q : QT) : Prop := ∀ P, Cl P → P d nE mu pc ls st n M Q
theorem mn_bK {b : Bool} {P P' : Prop} (h : P → P') : bK b P → bK b P' := by
  cases b <;> simp [bK]; exact h
theorem mn_iK {i : Int32} {n : Nat} {P P' : Prop} (h : P → P') : iK i n P → iK i n P' := by
  unfold iK; cases Nat.blt (ix i) n <;> simp only [cond_true, cond_false]
  · exact fun q => ⟨q.1, h q.2⟩
  · exact h
theorem mn_nzK {y : Int32} {P P' : Prop} (h : P → P') : nzK y P → nzK y P' := by
  unfold nzK; cases Nat.blt 0 (ix y) <;> simp only [cond_true, cond_false]
  · exact fun q => ⟨q.1, h q.2⟩
  · exact h
theorem mn_oK {n r c : Nat} {P P' : Prop} (h : P → P') : oK n r c P → oK n r c P' := by
  unfold oK
  cases (Nat.blt r n && Nat.beq (kd r) c) <;> simp only [cond_true, cond_false]
  · exact id
  · exact h
theorem mn_rdI {n r : Nat} {P P' : Prop} (h : P → P') : rdI n r P → rdI n r P' := by
  unfold rdI
  cases (Nat.blt r n && (Nat.beq (kd r) 20 || (Nat.beq (kd r) 26 || Nat.beq (kd r) 25))) <;> simp only [cond_true, cond_false]
  · exact id
  · exact h
theorem mn_rdN {n r : Nat} {P P' : Prop} (h : P → P') : rdN n r P → rdN n r P' := by
  unfold rdN
  cases (Nat.blt r n && Nat.ble 20 (kd r)) <;> simp only [cond_true, cond_false]
  · exact id
  · exact h
theorem mn_rK {x : Option Nat} {f g : Nat → Prop} (h : ∀ a, f a → g a) : rK x f → rK x g := by
  cases x <;> simp [rK]; exact h _
theorem mn_brK {c a b a' b' : Prop} (h : a → a') (h2 : b → b') : brK c a b → brK c a' b' := by
  exact fun q => ⟨fun z => h (q.1 z), fun z => h2 (q.2 z)⟩
theorem mn_swK {x : Int32} {f g : Nat → Prop} {d : Nat} {cs : List (Int32 × Nat)} (h : ∀ t, f t → g t) : swK x f d cs → swK x g d cs := by
  induction cs with
  | nil => exact h d
  | cons a l ih => exact fun q => ⟨fun z => h _ (q.1 z), fun z => ih (q.2 z)⟩
theorem mn_pI {st : List Value} {f g : Int32 → List Value → Prop} (h : ∀ x r, f x r → g x r) : pI st f → pI st g := by
  unfold pI
  split
  · exact h _ _
  · exact id
theorem mn_pII {st : List Value} {f g : Int32 → Int32 → List Value → Prop} (h : ∀ x y r, f x y r → g x y r) : pII st f → pII st g := by
  unfold pII
  split
  · exact h _ _ _
  · exact id
theorem mn_pL {st : List Value} {f g : Int64 → List Value → Prop} (h : ∀ x r, f x r → g x r) : pL st f → pL st g := by
  unfold pL
  split
  · exact h _ _
  · exact id
theorem mn_pLL {st : List Value} {f g : Int64 → Int64 → List Value → Prop} (h : ∀ x y r, f x y r → g x y r) : pLL st f → pLL st g := by
  unfold pLL
  split
  · exact h _ _ _
  · exact id
theorem mn_pLI {st : List Value} {f g : Int64 → Int32 → List Value → Prop} (h : ∀ x y r, f x y r → g x y r) : pLI st f → pLI st g := by
  unfold pLI
  split
  · exact h _ _ _
  · exact id
theorem mn_pR {st : List Value} {f g : Nat → List Value → Prop} (h : ∀ x r, f x r → g x r) : pR st f → pR st g := by
  unfold pR
  split
  · exact h _ _
  · exact id
theorem mn_pIR {st : List Value} {f g : Int32 → Nat → List Value → Prop} (h : ∀ x y r, f x y r → g x y r) : pIR st f → pIR st g := by
  unfold pIR
  split
  · exact h _ _ _
  · exact id
theorem mn_pRR {st : List Value} {f g : Nat → Nat → List Value → Prop} (h : ∀ x y r, f x y r → g x y r) : pRR st f → pRR st g := by
  unfold pRR
  split
  · exact h _ _ _
  · exact id
theorem mn_pIIR {st : List Value} {f g : Int32 → Int32 → Nat → List Value → Prop} (h : ∀ x y z r, f x y z r → g x y z r) : pIIR st f → pIIR st g := by
  unfold pIIR
  split
  · exact h _ _ _ _
  · exact id
theorem mn_pLIR {st : List Value} {f g : Int64 → Int32 → Nat → List Value → Prop} (h : ∀ x y z r, f x y z r → g x y z r) : pLIR st f → pLIR st g := by
  unfold pLIR
  split
  · exact h _ _ _ _
  · exact id
theorem mn_pRIR {st : List Value} {f g : Nat → Int32 → Nat → List Value → Prop} (h : ∀ x y z r, f x y z r → g x y z r) : pRIR st f → pRIR st g := by
  unfold pRIR
  split
  · exact h _ _ _ _
  · exact id
theorem mn_pCpy {st : List Value} {f g : Int32 → Int32 → Nat → Int32 → Nat → List Value → Prop} (h : ∀ a b c d e r, f a b c d e r → g a b c d e r) : pCpy st f → pCpy st g := by
  unfold pCpy
  split
  · exact h _ _ _ _ _ _
  · exact id
theorem mn_pDup {st : List Value} {f g : Value → List Value → Prop} (h : ∀ x r, f x r → g x r) : pDup st f → pDup st g := by
  unfold pDup
  split
  · exact h _ _
  · exact h _ _
  · exact id
theorem mn_pA {st : List Value} {g g' : List Value → Prop} {f f' : Nat → List Value → Prop} (h1 : ∀ r, g r → g' r) (h : ∀ x r, f x r → f' x r) : pA st g f → pA st g' f' := by
  unfold pA
  split
  · exact h _ _
  · exact h1 _
  · exact id
theorem mn_vI {v : Value} {f g : Int32 → Prop} (h : ∀ x, f x → g x) : vI v f → vI v g := by
  cases v <;> first | exact h _ | exact id
theorem mn_vL {v : Value} {f g : Int64 → Prop} (h : ∀ x, f x → g x) : vL v f → vL v g := by
  cases v <;> first | exact h _ | exact id
theorem mn_vA {v : Value} {p p' : Prop} {f g : Nat → Prop} (h1 : p → p') (h : ∀ x, f x → g x) : vA v p f → vA v p' g := by
  cases v <;> first | exact h _ | exact h1 | exact id
theorem mn_pDup2 {st : List Value} {g g' : Int64 → List Value → Prop} {f f' : Value → Value → List Value → Prop} (h1 : ∀ x r, g x r → g' x r) (h : ∀ x y r, f x y r → f' x y r) : pDup2 st g f → pDup2 st g' f' := by
  unfold pDup2
  split
  · exact h1 _ _
  · exact h _ _ _
  · exact h _ _ _
  · exact id
theorem mn_cpK {n q0 q1 : Nat} {M : Mm} {f g : Mm → Prop} {sp dp cn : Int32} (h : ∀ M', f M' → g M') : cpK n q0 q1 M f sp dp cn → cpK n q0 q1 M g sp dp cn := by
  unfold cpK
  cases (Nat.blt q0 n && (Nat.blt q1 n && (Nat.beq (kd q0) 20 && Nat.beq (kd q1) 20))) <;> cases (Nat.blt q0 n && (Nat.blt q1 n && (Nat.beq (kd q0) 23 && Nat.beq (kd q1) 23))) <;> simp only [cond_true, cond_false]
  all_goals first | exact id | exact fun q => ⟨q.1, q.2.1, h _ q.2.2⟩
theorem mn_rcK {n c : Nat} {st : List Value} {P P' : Prop} (h : P → P') : rcK n c st P → rcK n c st P' := by
  unfold rcK
  split
  · exact mn_oK h
  · exact id
theorem mn_rKd {k : Nat} {f g : List Value → Mm → Prop} (h : ∀ v M, f v M → g v M) (r : Option Value) (M : Mm) : rKd k f r M → rKd k g r M := by
  unfold rKd
  cases Nat.beq k 0 <;> cases Nat.beq k 2 <;> cases Nat.beq k 3 <;> simp only [cond_true, cond_false]
  all_goals (first | unfold rI | unfold rL | unfold rA | unfold rV) <;> split <;> first | exact h _ _ | exact id
theorem mn_callK {nE d n mu k nx : Nat} {st ls : List Value} {K K' : KT} {C C' : CT} {M : Mm} (hK : ∀ pc ls st n M, K pc ls st n M → K' pc ls st n M) (hC : ∀ d nE mu ls n M Q Q', (∀ r M, Q r M → Q' r M) → C d nE mu ls n M Q → C' d nE mu ls n M Q') : callK nE d n mu k st K C nx ls M → callK nE d n mu k st K' C' nx ls M := by
  cases d with
  | zero => exact id
  | succ d => exact mn_bK (hC _ _ _ _ _ _ _ _ (mn_rKd (mn_rF (fun v M => hK _ _ _ _ _))))
theorem stepW_mono {nE d n z : Nat} {o : Op} {K K' : KT} {C C' : CT} {Q Q' : QT} {ls st : List Value} {M : Mm} (hK : ∀ pc ls st n M, K pc ls st n M → K' pc ls st n M) (hC : ∀ d nE mu ls n M Q Q', (∀ r M, Q r M → Q' r M) → C d nE mu ls n M Q → C' d nE mu ls n M Q') (hQ : ∀ r M, Q r M → Q' r M) : stepW nE d n z o K C Q ls st M → stepW nE d n z o K' C' Q' ls st M := by
  obtain ⟨i, nx, a, b, c, v, w, cs⟩ := o
  cases i with
  | ifCond cc off => cases cc <;> exact mn_pI (fun _ _ => mn_brK (hK _ _ _ _ _) (hK _ _ _ _ _))
  | if_icmp cc off => cases cc <;> exact mn_pII (fun _ _ _ => mn_brK (hK _ _ _ _ _) (hK _ _ _ _ _))
  | getfield => 
    refine mn_pR (fun _ _ => mn_oK ?_)
    cases Nat.beq (fk b a) 2
    · exact hK _ _ _ _ _
    · exact mn_rK (fun _ => hK _ _ _ _ _)
  | putfield =>
    show (bif Nat.beq (fk b a) 2 then _ else _) → (bif Nat.beq (fk b a) 2 then _ else _)
    cases Nat.beq (fk b a) 2
    · refine mn_pIR (fun _ _ _ => mn_oK ?_)
      cases Nat.beq (fk b a) 3
      · exact hK _ _ _ _ _
      · exact mn_iK (hK _ _ _ _ _)
    · exact mn_pRR (fun _ _ _ => mn_oK (hK _ _ _ _ _))
  | invokevirtual => exact mn_rcK (mn_callK hK hC)
  | invokestatic =>
    show (bif Nat.beq b 7 then _ else bif Nat.beq b 8 then _ else bif Nat.beq b 6 then _ else _) → (bif Nat.beq b 7 then _ else bif Nat.beq b 8 then _ else bif Nat.beq b 6 then _ else _)
    cases Nat.beq b 7
    rotate_left
    · cases d with
      | zero => exact id
      | succ d => exact mn_pII (fun _ _ _ => mn_bK (hK _ _ _ _ _))
    cases Nat.beq b 8
    rotate_left
    · cases d with
      | zero => exact id
      | succ d => exact mn_pII (fun _ _ _ => mn_bK (hK _ _ _ _ _))
    cases Nat.beq b 6
    · exact mn_callK hK hC
    · cases d with
      | zero => exact id
      | succ d => exact mn_pCpy (fun _ _ _ _ _ _ => mn_bK (mn_cpK (fun _ => hK _ _ _ _ _)))
  | invokespecial =>
    show (bif Nat.beq b 5 then _ else _) → (bif Nat.beq b 5 then _ else _)
    cases Nat.beq b 5
    · exact mn_rcK (mn_callK hK hC)
    · cases d with
      | zero => exact id
      | succ d => exact mn_pR (fun _ _ => mn_bK (hK _ _ _ _ _))
  | ireturn =>
    refine mn_bK ?_
    split
    · cases Nat.beq z 4
      · exact mn_bK (hQ _ _)
      · exact mn_iK (hQ _ _)
    · exact id
  | lreturn =>
    refine mn_bK ?_
    split
    · exact mn_bK (hQ _ _)
    · exact id
  | areturn =>
    refine mn_bK ?_
    split
    · exact mn_bK (hQ _ _)
    · exact mn_bK (hQ _ _)
    · exact id
  | return_ =>
    refine mn_bK ?_
    split
    · exact mn_bK (hQ _ _)
    · exact id
  | dup => exact mn_pDup (f := fun x r => K nx ls (x :: x :: r) n M) (g := fun x r => K' nx ls (x :: x :: r) n M) (fun _ _ => hK _ _ _ _ _)
  | pop => exact mn_pDup (f := fun _ r => K nx ls r n M) (g := fun _ r => K' nx ls r n M) (fun _ _ => hK _ _ _ _ _)
  | dup2 => exact mn_pDup2 (g := fun x r => K nx ls (.long x :: .long x :: r) n M) (g' := fun x r => K' nx ls (.long x :: .long x :: r) n M) (f := fun x y r => K nx ls (x :: y :: x :: y :: r) n M) (f' := fun x y r => K' nx ls (x :: y :: x :: y :: r) n M) (fun _ _ => hK _ _ _ _ _) (fun _ _ _ => hK _ _ _ _ _)
  | _ => first | exact id | exact hK _ _ _ _ _ | exact mn_vI (fun _ => hK _ _ _ _ _) | exact mn_vL (fun _ => hK _ _ _ _ _) | exact mn_vA (hK _ _ _ _ _) (fun _ => hK _ _ _ _ _) | exact mn_bK (mn_pI (fun _ _ => hK _ _ _ _ _)) | exact mn_bK (mn_pL (fun _ _ => hK _ _ _ _ _)) | exact mn_bK (mn_pA (fun _ => hK _ _ _ _ _) (fun _ _ => hK _ _ _ _ _)) | exact mn_bK (mn_vI (fun _ => hK _ _ _ _ _)) | exact mn_pII (fun _ _ _ => hK _ _ _ _ _) | exact mn_pII (fun _ _ _ => mn_nzK (hK _ _ _ _ _)) | exact mn_pI (fun _ _ => hK _ _ _ _ _) | exact mn_pL (fun _ _ => hK _ _ _ _ _) | exact mn_pLL (fun _ _ _ => hK _ _ _ _ _) | exact mn_pLI (fun _ _ _ => hK _ _ _ _ _) | exact mn_pA (fun _ => hK _ _ _ _ _) (fun _ _ => hK _ _ _ _ _) | exact mn_pI (fun _ _ => mn_swK (fun _ => hK _ _ _ _ _)) | exact mn_pR (fun _ _ => mn_rdN (hK _ _ _ _ _)) | exact mn_pIR (fun _ _ _ => mn_rdI (mn_iK (hK _ _ _ _ _))) | exact mn_pIR (fun _ _ _ => mn_oK (mn_iK (hK _ _ _ _ _))) | exact mn_pIR (fun _ _ _ => mn_oK (mn_iK (mn_rK (fun _ => hK _ _ _ _ _)))) | exact mn_pIIR (fun _ _ _ _ => mn_oK (mn_iK (hK _ _ _ _ _))) | exact mn_pLIR (fun _ _ _ _ => mn_oK (mn_iK (hK _ _ _ _ _))) | exact mn_pRIR (fun _ _ _ _ => mn_oK (mn_oK (mn_iK (hK _ _ _ _ _)))) | exact mn_bK (hK _ _ _ _ _) | exact mn_bK (mn_pI (fun _ _ => mn_bK (hK _ _ _ _ _))) | exact mn_pDup (fun _ _ => hK _ _ _ _ _) | exact mn_pDup2 (fun _ _ => hK _ _ _ _ _) (fun _ _ _ => hK _ _ _ _ _)
theorem WP.mono {d nE mu pc : Nat} {ls st : List Value} {n : Nat} {M : Mm} {Q Q' : QT} (h : WP d nE mu pc ls st n M Q) (hQ : ∀ r M, Q r M → Q' r M) : WP d nE mu pc ls st n M Q' := by
  refine h (fun d nE mu pc ls st n M Q => ∀ Q', (∀ r M, Q r M → Q' r M) → WP d nE mu pc ls st n M Q') ?_ Q' hQ
  intro d nE mu pc ls st n M Q h Q' hQ P hP
  exact hP _ _ _ _ _ _ _ _ _ (stepW_mono (fun _ _ _ _ _ hk => hk Q' hQ P hP) (fun _ _ _ _ _ _ _ q' hq hc => hc q' hq P hP) hQ h)
theorem WP.step {d nE mu pc : Nat} {ls st : List Value} {n : Nat} {M : Mm} {Q : QT} (h : stepW nE d n (rz mu) (codeOf mu pc) (fun pc' ls' st' n' M' => WP d nE mu pc' ls' st' n' M' Q) (fun d' nE' mu' ls' n' M' Q' => WP d' nE' mu' 0 ls' [] n' M' Q') Q ls st M) : WP d nE mu pc ls st n M Q := by
  intro P hP
  exact hP _ _ _ _ _ _ _ _ _ (stepW_mono (fun _ _ _ _ _ hk => hk P hP) (fun _ _ _ _ _ _ _ q' hq hc => (hc.mono hq) P hP) (fun _ _ h => h) h)
