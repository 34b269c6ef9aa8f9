/-! THE INVARIANT OF THE LAW'S LOOP -/
def agr (p : Nat → Nat → Bool) (M M' : M2) : Prop := ∀ r j, p r j = true → gI M' r j = gI M r j ∧ gL M' r j = gL M r j
theorem agr_r {p : Nat → Nat → Bool} (M : M2) : agr p M M := fun _ _ _ => ⟨rfl, rfl⟩
theorem agr_t {p : Nat → Nat → Bool} {M M' M'' : M2} (h : agr p M M') (h2 : agr p M' M'') : agr p M M'' := fun r j q => ⟨(h2 r j q).1.trans (h r j q).1, (h2 r j q).2.trans (h r j q).2⟩
theorem agr_m {p q : Nat → Nat → Bool} {M M' : M2} (hm : ∀ r j, q r j = true → p r j = true) (h : agr p M M') : agr q M M' := fun r j hq => h r j (hm r j hq)
theorem agr_sI {p : Nat → Nat → Bool} {M M' : M2} {r k : Nat} {v : Int32} (hp : p r k = false) (h : agr p M M') : agr p M (sI M' r k v) := by
  intro a j q
  have e : ¬ (a = r ∧ j = k) := by
    intro e
    rw [e.1, e.2, hp] at q
    exact absurd q (by decide)
  exact ⟨(gI_o e).trans (h a j q).1, (h a j q).2⟩
theorem agr_sL {p : Nat → Nat → Bool} {M M' : M2} {r k : Nat} {v : Int64} (hp : p r k = false) (h : agr p M M') : agr p M (sL M' r k v) := by
  intro a j q
  have e : ¬ (a = r ∧ j = k) := by
    intro e
    rw [e.1, e.2, hp] at q
    exact absurd q (by decide)
  exact ⟨(h a j q).1, (gL_o e).trans (h a j q).2⟩
theorem agr_C {b : Bool} {M M' : M2} (h : C b M' = C b M) : agr (pC b) M M' := fun r j q => ⟨(C_gI h q).trans (C_gI rfl q).symm, (C_gL h q).trans (C_gL rfl q).symm⟩
theorem C_agr {b : Bool} {M M' : M2} (h : agr (pC b) M M') : C b M' = C b M := by
  unfold C
  congr 1
  · funext r k
    cases hp : pC b r k with
    | false => rfl
    | true => exact (h r k hp).1
  · funext r k
    cases hp : pC b r k with
    | false => rfl
    | true => exact (h r k hp).2
theorem agr_eqx {p : Nat → Nat → Bool} {l : Nat → Bool} {M M' : M2} (hl : ∀ r j, p r j = true → l r = false) (h : eqx l M M') : agr p M M' := fun r j q => h r (hl r j q) j
def pStat (r _ : Nat) : Bool := Nat.blt r 3
def pHim (r _ : Nat) : Bool := Nat.beq r 5 || Nat.beq r 68
def pVil (r j : Nat) : Bool := (Nat.beq r 18 && Nat.beq j 0) || ((Nat.ble 19 r && Nat.ble r 22) || ((Nat.beq r 67 && Nat.beq j 2) || (Nat.ble 69 r && Nat.ble r 72)))
def pSch (r j : Nat) : Bool := (Nat.beq r 26 && Nat.beq j 0) || (Nat.beq r 27 || ((Nat.beq r 67 && Nat.beq j 7) || Nat.beq r 73))
def pLed (r j : Nat) : Bool := Nat.beq r 33 || (Nat.beq r 34 || ((Nat.beq r 67 && Nat.beq j 54) || (Nat.ble 98 r && Nat.ble r 100)))
def pChg (r j : Nat) : Bool := (Nat.ble 35 r && Nat.ble r 39) || ((Nat.beq r 67 && (Nat.beq j 9 || Nat.beq j 10)) || (Nat.ble 74 r && Nat.ble r 77))
def pAct (r j : Nat) : Bool := (Nat.ble 40 r && Nat.ble r 42) || ((Nat.beq r 67 && (Nat.beq j 57 || Nat.beq j 59)) || (Nat.beq r 101 || Nat.beq r 102))
def pShf (r j : Nat) : Bool := (Nat.ble 55 r && Nat.ble r 66) || ((Nat.beq r 40 && Nat.beq j 0) || (Nat.ble 103 r && Nat.ble r 105))
def pTap (r j : Nat) : Bool := (Nat.beq r 7 && Nat.beq j 0) || (Nat.beq r 8 || ((Nat.beq r 67 && Nat.beq j 16) || Nat.beq r 78))
theorem StatW_a {M M' : M2} (h : agr pStat M M') (q : StatW M) : StatW M' := by
  have e0 : ∀ j, gI M' 0 j = gI M 0 j := fun j => (h 0 j rfl).1
  have e1 : ∀ j, gI M' 1 j = gI M 1 j := fun j => (h 1 j rfl).1
  have e2 : ∀ j, gI M' 2 j = gI M 2 j := fun j => (h 2 j rfl).1
  unfold StatW
  simp only [e0, e1, e2]
  exact q
theorem HimR_a {M M' : M2} (h : agr pHim M M') (q : HimR M M) : HimR M' M' := by
  have e0 : ∀ j, gI M' 5 j = gI M 5 j := fun j => (h 5 j rfl).1
  have e1 : ∀ j, gI M' 68 j = gI M 68 j := fun j => (h 68 j rfl).1
  unfold HimR HimW
  simp only [e0, e1]
  exact q
theorem VilR_a {M M' : M2} (h : agr pVil M M') (q : VilR M M) : VilR M' M' := by
  have a0 : gI M' 18 0 = gI M 18 0 := (h 18 0 rfl).1
  have a1 : gI M' 67 2 = gI M 67 2 := (h 67 2 rfl).1
  have e0 : ∀ j, gI M' 19 j = gI M 19 j := fun j => (h 19 j rfl).1
  have e1 : ∀ j, gI M' 20 j = gI M 20 j := fun j => (h 20 j rfl).1
  have e2 : ∀ j, gI M' 21 j = gI M 21 j := fun j => (h 21 j rfl).1
  have e3 : ∀ j, gI M' 22 j = gI M 22 j := fun j => (h 22 j rfl).1
  have e4 : ∀ j, gI M' 69 j = gI M 69 j := fun j => (h 69 j rfl).1
  have e5 : ∀ j, gI M' 70 j = gI M 70 j := fun j => (h 70 j rfl).1
  have e6 : ∀ j, gI M' 71 j = gI M 71 j := fun j => (h 71 j rfl).1
  have e7 : ∀ j, gI M' 72 j = gI M 72 j := fun j => (h 72 j rfl).1
  unfold VilR
  simp only [a0, a1, e0, e1, e2, e3, e4, e5, e6, e7]
  exact q
theorem SchR_a {M M' : M2} (h : agr pSch M M') (q : SchR M M) : SchR M' M' := by
  have a0 : gI M' 26 0 = gI M 26 0 := (h 26 0 rfl).1
  have a1 : gI M' 67 7 = gI M 67 7 := (h 67 7 rfl).1
  have e0 : ∀ j, gI M' 27 j = gI M 27 j := fun j => (h 27 j rfl).1
  have e1 : ∀ j, gI M' 73 j = gI M 73 j := fun j => (h 73 j rfl).1
  unfold SchR
  simp only [a0, a1, e0, e1]
  exact q
theorem LedR_a {M M' : M2} (h : agr pLed M M') (q : LedR M M) : LedR M' M' := by
  have a1 : gI M' 67 54 = gI M 67 54 := (h 67 54 rfl).1
  have e0 : ∀ j, gI M' 33 j = gI M 33 j := fun j => (h 33 j rfl).1
  have e1 : ∀ j, gI M' 34 j = gI M 34 j := fun j => (h 34 j rfl).1
  have e2 : ∀ j, gI M' 98 j = gI M 98 j := fun j => (h 98 j rfl).1
  have e3 : ∀ j, gI M' 99 j = gI M 99 j := fun j => (h 99 j rfl).1
  have e4 : ∀ j, gI M' 100 j = gI M 100 j := fun j => (h 100 j rfl).1
  unfold LedR
  simp only [a1, e0, e1, e2, e3, e4]
  exact q
theorem ChgR_a {M M' : M2} (h : agr pChg M M') (q : ChgR M M) : ChgR M' M' := by
  have a1 : gI M' 67 9 = gI M 67 9 := (h 67 9 rfl).1
  have a2 : gI M' 67 10 = gI M 67 10 := (h 67 10 rfl).1
  have e0 : ∀ j, gI M' 35 j = gI M 35 j := fun j => (h 35 j rfl).1
  have e1 : ∀ j, gI M' 36 j = gI M 36 j := fun j => (h 36 j rfl).1
  have e2 : ∀ j, gI M' 37 j = gI M 37 j := fun j => (h 37 j rfl).1
  have e3 : ∀ j, gI M' 38 j = gI M 38 j := fun j => (h 38 j rfl).1
  have e4 : ∀ j, gI M' 39 j = gI M 39 j := fun j => (h 39 j rfl).1
  have e5 : ∀ j, gI M' 74 j = gI M 74 j := fun j => (h 74 j rfl).1
  have e6 : ∀ j, gI M' 75 j = gI M 75 j := fun j => (h 75 j rfl).1
  have e7 : ∀ j, gI M' 76 j = gI M 76 j := fun j => (h 76 j rfl).1
  have e8 : ∀ j, gI M' 77 j = gI M 77 j := fun j => (h 77 j rfl).1
  unfold ChgR
  simp only [a1, a2, e0, e1, e2, e3, e4, e5, e6, e7, e8]
  exact q
theorem ActR_a {M M' : M2} (h : agr pAct M M') (q : ActR M M) : ActR M' M' := by
  have a1 : gI M' 67 57 = gI M 67 57 := (h 67 57 rfl).1
  have a2 : gI M' 67 59 = gI M 67 59 := (h 67 59 rfl).1
  have e0 : ∀ j, gI M' 40 j = gI M 40 j := fun j => (h 40 j rfl).1
  have e1 : ∀ j, gI M' 41 j = gI M 41 j := fun j => (h 41 j rfl).1
  have e2 : ∀ j, gI M' 42 j = gI M 42 j := fun j => (h 42 j rfl).1
  have e3 : ∀ j, gI M' 101 j = gI M 101 j := fun j => (h 101 j rfl).1
  have e4 : ∀ j, gI M' 102 j = gI M 102 j := fun j => (h 102 j rfl).1
  unfold ActR
  simp only [a1, a2, e0, e1, e2, e3, e4]
  exact q
theorem pShf_s : ∀ i, i < 6 → ∀ j, pShf (shC i) j = true ∧ pShf (shC i + 1) j = true := by
  intro i hi j
  have : i = 0 ∨ i = 1 ∨ i = 2 ∨ i = 3 ∨ i = 4 ∨ i = 5 := by omega
  rcases this with h | h | h | h | h | h <;> subst h <;> exact ⟨rfl, rfl⟩
theorem ShfR_a {M M' : M2} (h : agr pShf M M') (q : ShfR M M) : ShfR M' M' := by
  intro i hi
  have a0 : gI M' 40 0 = gI M 40 0 := (h 40 0 rfl).1
  have e0 : ∀ j, gI M' (shC i) j = gI M (shC i) j := fun j => (h _ j (pShf_s i hi j).1).1
  have e1 : ∀ j, gL M' (shC i + 1) j = gL M (shC i + 1) j := fun j => (h _ j (pShf_s i hi j).2).2
  have e2 : ∀ j, gI M' 103 j = gI M 103 j := fun j => (h 103 j rfl).1
  have e3 : ∀ j, gI M' 104 j = gI M 104 j := fun j => (h 104 j rfl).1
  have e4 : ∀ j, gL M' 105 j = gL M 105 j := fun j => (h 105 j rfl).2
  unfold ShfR1
  simp only [a0, e0, e1, e2, e3, e4]
  exact q i hi
theorem TapR_a {M M' : M2} (h : agr pTap M M') (q : TapR M M) : TapR M' M' := by
  have a0 : gI M' 7 0 = gI M 7 0 := (h 7 0 rfl).1
  have a1 : gI M' 67 16 = gI M 67 16 := (h 67 16 rfl).1
  have e0 : ∀ j, gI M' 8 j = gI M 8 j := fun j => (h 8 j rfl).1
  have e1 : ∀ j, gI M' 78 j = gI M 78 j := fun j => (h 78 j rfl).1
  unfold TapR
  simp only [a0, a1, e0, e1]
  exact q
/-! THE LAW -/
def isNm (c : Int32) : Bool := decide (c = 109) || (decide (c = 103) || (decide (c = 108) || (decide (c = 104) || (decide (c = 114) || decide (c = 116)))))
def nmI (c : Int32) : Int32 := bif decide (c = 109) then 0 else bif decide (c = 103) then 1 else bif decide (c = 108) then 2 else bif decide (c = 104) then 3 else bif decide (c = 114) then 4 else 5
def isBin (c : Int32) : Bool := decide (c = 38) || (decide (c = 42) || (decide (c = 43) || (decide (c = 45) || (decide (c = 47) || (decide (c = 60) || (decide (c = 61) || (decide (c = 62) || (decide (c = 124) || decide (c = 37)))))))))
/-- a sign and a step that say the same -/
def sgR (c a w : Int32) : Prop := (∃ v, ix v < 10000 ∧ c = 1000 + v ∧ a = 1 ∧ w = v) ∨ (isNm c = true ∧ a = 2 ∧ w = nmI c) ∨ (c = 33 ∧ a = 3) ∨ (c = 126 ∧ a = 4) ∨ (isBin c = true ∧ a = c)
/-- how many lie on the stack behind a sign -/
def hgt (c : Int32) (h : Nat) : Option Nat := bif (decide (1000 ≤ c) || isNm c) then some (h + 1) else bif (decide (c = 33) || decide (c = 126)) then (bif Nat.blt 0 h then some h else none) else (bif Nat.blt 1 h then some (h - 1) else none)
def hrun (sg : Nat → Int32) : Nat → Nat → Nat → Option Nat
  | 0, _, h => some h
  | n + 1, k, h => match hgt (sg k) h with
    | none => none
    | some h' => hrun sg n (k + 1) h'
def lstart (M : M2) (nc : Nat) (i : Nat) : Nat := match i with
  | 0 => 0
  | i + 1 => ix (gI M (nc + 3) i)
/-- the cell of the law's code -/
def nwC (b : Bool) : Nat := bif b then 13 else 9
def LawR1 (M : M2) (nc i : Nat) : Prop := lstart M nc i ≤ ix (gI M (nc + 2) i) ∧ ix (gI M (nc + 2) i) ≤ ix (gI M (nc + 3) i) ∧ ix (gI M (nc + 3) i) ≤ 120 ∧ gI M 82 i = gI M (nc + 2) i ∧ gI M 83 i = gI M (nc + 3) i ∧ (lstart M nc i = ix (gI M (nc + 2) i) ∨ hrun (gI M (nc + 1)) (ix (gI M (nc + 2) i) - lstart M nc i) (lstart M nc i) 0 = some 1) ∧ hrun (gI M (nc + 1)) (ix (gI M (nc + 3) i) - ix (gI M (nc + 2) i)) (ix (gI M (nc + 2) i)) 0 = some 1
def LawR (b : Bool) (M : M2) : Prop := ix (gI M (nwC b) 4) ≤ 60 ∧ gI M 67 28 = bI (!decide (gI M (nwC b) 4 = 0)) ∧ gI M 81 0 = gI M (nwC b) 4 ∧ ∀ i, i < ix (gI M (nwC b) 4) → LawR1 M (nwC b) i ∧ ∀ k, k < ix (gI M (nwC b + 3) i) → sgR (gI M (nwC b + 1) k) (gI M 79 k) (gI M 80 k)
def pLaw (b : Bool) (r j : Nat) : Bool := pC b r j && ((Nat.ble 9 r && Nat.ble r 16) || ((Nat.beq r 67 && Nat.beq j 28) || (Nat.ble 79 r && Nat.ble r 83)))
theorem LawR_a {b : Bool} {M M' : M2} (h : agr (pLaw b) M M') (q : LawR b M) : LawR b M' := by
  have hp : ∀ j, pLaw b (nwC b) j = true ∧ pLaw b (nwC b + 1) j = true ∧ pLaw b (nwC b + 2) j = true ∧ pLaw b (nwC b + 3) j = true := by
    intro j; cases b <;> exact ⟨rfl, rfl, rfl, rfl⟩
  have n0 : ∀ j, gI M' (nwC b) j = gI M (nwC b) j := fun j => (h _ j (hp j).1).1
  have n1 : ∀ j, gI M' (nwC b + 1) j = gI M (nwC b + 1) j := fun j => (h _ j (hp j).2.1).1
  have n2 : ∀ j, gI M' (nwC b + 2) j = gI M (nwC b + 2) j := fun j => (h _ j (hp j).2.2.1).1
  have n3 : ∀ j, gI M' (nwC b + 3) j = gI M (nwC b + 3) j := fun j => (h _ j (hp j).2.2.2).1
  have n1' : gI M' (nwC b + 1) = gI M (nwC b + 1) := funext n1
  have a0 : gI M' 67 28 = gI M 67 28 := (h 67 28 rfl).1
  have a1 : gI M' 81 0 = gI M 81 0 := (h 81 0 rfl).1
  have hl : ∀ i, lstart M' (nwC b) i = lstart M (nwC b) i := by
    intro i
    cases i with
    | zero => rfl
    | succ i => exact congrArg ix (n3 i)
  have hk : ∀ k, k < 130 → Nat.blt k 130 = true := fun k h => Nat.ble_eq_true_of_le h
  refine ⟨by rw [n0]; exact q.1, by rw [n0, a0]; exact q.2.1, by rw [n0, a1]; exact q.2.2.1, ?_⟩
  intro i hi
  rw [n0] at hi
  have q1 := q.2.2.2 i hi
  have hi6 : Nat.blt i 61 = true := Nat.ble_eq_true_of_le (by have := q.1; omega)
  have a2 : gI M' 82 i = gI M 82 i := (h 82 i (by unfold pLaw pC; simp only [hi6]; rfl)).1
  have a3 : gI M' 83 i = gI M 83 i := (h 83 i (by unfold pLaw pC; simp only [hi6]; rfl)).1
  refine ⟨?_, ?_⟩
  · unfold LawR1
    rw [hl, n1', n2, n3, a2, a3]
    exact q1.1
  · intro k hk2
    rw [n3] at hk2
    have hk3 : Nat.blt k 130 = true := hk k (by have := q1.1.2.2.1; omega)
    have a4 : gI M' 79 k = gI M 79 k := (h 79 k (by unfold pLaw pC; simp only [hk3]; rfl)).1
    have a5 : gI M' 80 k = gI M 80 k := (h 80 k (by unfold pLaw pC; simp only [hk3]; rfl)).1
    rw [n1, a4, a5]
    exact q1.2 k hk2
/-! ALL -/
def INV (b : Bool) (M : M2) : Prop := StatW M ∧ HimR M M ∧ VilR M M ∧ SchR M M ∧ LedR M M ∧ ChgR M M ∧ ActR M M ∧ ShfR M M ∧ TapR M M ∧ LawR b M
/-- a call of the class and then the same of the reference: the same answer, and all is as before -/
def PAIR (b : Bool) (M : M2) (mc mm : Nat) (ac am : List Value) : Prop := ∀ d, 200 ≤ d → ∀ f : Int32 → Mm → Prop, (∀ v M1, gI M1 3 = gI M 3 → (∀ f2 : Int32 → Mm → Prop, (∀ M2, INV b M2 → gI M2 3 = gI M 3 → f2 v (FR b, M2)) → WP d 107 mm 0 am [] 107 (FR b, M1) (rI f2)) → f v (FR b, M1)) → WP d 107 mc 0 ac [] 107 (FR b, M) (rI f)
def PAIRL (b : Bool) (M : M2) (mc mm : Nat) (ac am : List Value) : Prop := ∀ d, 200 ≤ d → ∀ f : Int64 → Mm → Prop, (∀ v M1, gI M1 3 = gI M 3 → (∀ f2 : Int64 → Mm → Prop, (∀ M2, INV b M2 → gI M2 3 = gI M 3 → f2 v (FR b, M2)) → WP d 107 mm 0 am [] 107 (FR b, M1) (rL f2)) → f v (FR b, M1)) → WP d 107 mc 0 ac [] 107 (FR b, M) (rL f)
