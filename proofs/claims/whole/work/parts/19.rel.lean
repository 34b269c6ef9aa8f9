/-! WHAT LASTS FROM CALL TO CALL -/
def slot67 (k : Nat) : Bool := (Nat.beq k 2 || (Nat.beq k 7 || (Nat.beq k 9 || (Nat.beq k 10 || (Nat.beq k 16 || (Nat.beq k 28 || (Nat.beq k 54 || (Nat.beq k 57 || Nat.beq k 59))))))))
def pC (b : Bool) (r k : Nat) : Bool :=
  bif Nat.blt r 43 then
    (bif Nat.blt r 18 then
      (bif Nat.blt r 6 then true else bif Nat.beq r 6 then false else bif Nat.beq r 7 then Nat.beq k 0 else bif Nat.beq r 8 then true else bif Nat.beq r 17 then false else bif Nat.blt r 13 then (!b) else b)
    else (bif Nat.blt r 23 then true else bif Nat.blt r 26 then false else bif Nat.beq r 26 then Nat.beq k 0 else bif Nat.beq r 27 then true else bif Nat.blt r 33 then false else true))
  else
    (bif Nat.blt r 67 then (bif Nat.blt r 53 then false else bif Nat.beq r 54 then false else true)
    else bif Nat.beq r 67 then slot67 k else bif Nat.blt r 79 then true else bif Nat.blt r 81 then Nat.blt k 130 else bif Nat.beq r 81 then Nat.beq k 0 else bif Nat.blt r 84 then Nat.blt k 61 else bif Nat.blt r 98 then false else bif Nat.beq r 106 then false else true)
/-- the lasting part of a memory -/
def C (b : Bool) (M : M2) : M2 := (fun r k => bif pC b r k then M.1 r k else 0, fun r k => bif pC b r k then M.2 r k else 0)
theorem C_gI {b : Bool} {M S : M2} {r k : Nat} (h : C b M = S) (hp : pC b r k = true) : gI M r k = gI S r k := by
  subst h
  unfold gI C
  simp only [hp]
  rfl
theorem C_gL {b : Bool} {M S : M2} {r k : Nat} (h : C b M = S) (hp : pC b r k = true) : gL M r k = gL S r k := by
  subst h
  unfold gL C
  simp only [hp]
  rfl
/-- memories that differ in some cells alone -/
def eqx (l : Nat → Bool) (M M' : M2) : Prop := ∀ r, l r = false → ∀ j, gI M' r j = gI M r j ∧ gL M' r j = gL M r j
theorem eqx_r {l : Nat → Bool} (M : M2) : eqx l M M := fun _ _ _ => ⟨rfl, rfl⟩
theorem eqx_t {l : Nat → Bool} {M M' M'' : M2} (h : eqx l M M') (h2 : eqx l M' M'') : eqx l M M'' := fun r hr j => ⟨(h2 r hr j).1.trans (h r hr j).1, (h2 r hr j).2.trans (h r hr j).2⟩
theorem eqx_m {l m : Nat → Bool} {M M' : M2} (h : eqx l M M') (hm : ∀ r, m r = false → l r = false) : eqx m M M' := fun r hr j => h r (hm r hr) j
theorem eqx_sI {l : Nat → Bool} {M : M2} {r k : Nat} {v : Int32} (h : l r = true) : eqx l M (sI M r k v) := by
  intro a ha j
  have : ¬ a = r := by intro e; subst e; rw [h] at ha; exact absurd ha (by decide)
  refine ⟨?_, rfl⟩
  show (if a = r ∧ j = k then v else M.1 a j) = _
  rw [if_neg (fun q => this q.1)]
  rfl
theorem eqx_sL {l : Nat → Bool} {M : M2} {r k : Nat} {v : Int64} (h : l r = true) : eqx l M (sL M r k v) := by
  intro a ha j
  have : ¬ a = r := by intro e; subst e; rw [h] at ha; exact absurd ha (by decide)
  refine ⟨rfl, ?_⟩
  show (if a = r ∧ j = k then v else M.2 a j) = _
  rw [if_neg (fun q => this q.1)]
  rfl
theorem C_eqx {b : Bool} {l : Nat → Bool} {M M' S : M2} (h : eqx l M M') (hl : ∀ r, l r = true → ∀ k, pC b r k = false) (hS : C b M = S) : C b M' = S := by
  subst hS
  unfold C
  congr 1
  · funext r k
    cases hp : pC b r k with
    | false => rfl
    | true =>
      cases hr : l r with
      | false => exact (h r hr k).1
      | true => rw [hl r hr k] at hp; exact absurd hp (by decide)
  · funext r k
    cases hp : pC b r k with
    | false => rfl
    | true =>
      cases hr : l r with
      | false => exact (h r hr k).2
      | true => rw [hl r hr k] at hp; exact absurd hp (by decide)
theorem C_off {b : Bool} {M S : M2} {r k : Nat} {v : Int32} (hS : C b M = S) (hp : pC b r k = false) : C b (sI M r k v) = S := by
  subst hS
  unfold C
  congr 1
  funext a j
  show (bif pC b a j then (if a = r ∧ j = k then v else M.1 a j) else 0) = _
  by_cases e : a = r ∧ j = k
  · rw [e.1, e.2, hp]; rfl
  · rw [if_neg e]
theorem C_on {b : Bool} {M S : M2} {r k : Nat} {v : Int32} (hS : C b M = S) (hp : pC b r k = true) : C b (sI M r k v) = sI S r k v := by
  subst hS
  unfold C sI
  congr 1
  funext a j
  show (bif pC b a j then (if a = r ∧ j = k then v else M.1 a j) else 0) = if a = r ∧ j = k then v else (bif pC b a j then M.1 a j else 0)
  by_cases e : a = r ∧ j = k
  · rw [if_pos e, if_pos e, e.1, e.2, hp]; rfl
  · rw [if_neg e, if_neg e]
theorem C_offL {b : Bool} {M S : M2} {r k : Nat} {v : Int64} (hS : C b M = S) (hp : pC b r k = false) : C b (sL M r k v) = S := by
  subst hS
  unfold C
  congr 1
  funext a j
  show (bif pC b a j then (if a = r ∧ j = k then v else M.2 a j) else 0) = _
  by_cases e : a = r ∧ j = k
  · rw [e.1, e.2, hp]; rfl
  · rw [if_neg e]
theorem C_onL {b : Bool} {M S : M2} {r k : Nat} {v : Int64} (hS : C b M = S) (hp : pC b r k = true) : C b (sL M r k v) = sL S r k v := by
  subst hS
  unfold C sL
  congr 1
  funext a j
  show (bif pC b a j then (if a = r ∧ j = k then v else M.2 a j) else 0) = if a = r ∧ j = k then v else (bif pC b a j then M.2 a j else 0)
  by_cases e : a = r ∧ j = k
  · rw [if_pos e, if_pos e, e.1, e.2, hp]; rfl
  · rw [if_neg e, if_neg e]
theorem gI_s (M : M2) (r k : Nat) (v : Int32) : gI (sI M r k v) r k = v := if_pos ⟨rfl, rfl⟩
theorem gI_o {M : M2} {r k a j : Nat} {v : Int32} (h : ¬ (a = r ∧ j = k)) : gI (sI M r k v) a j = gI M a j := if_neg h
theorem gI_or {M : M2} {r k a j : Nat} {v : Int32} (h : a ≠ r) : gI (sI M r k v) a j = gI M a j := if_neg (fun q => h q.1)
theorem gI_oj {M : M2} {r k a j : Nat} {v : Int32} (h : j ≠ k) : gI (sI M r k v) a j = gI M a j := if_neg (fun q => h q.2)
theorem gL_s (M : M2) (r k : Nat) (v : Int64) : gL (sL M r k v) r k = v := if_pos ⟨rfl, rfl⟩
theorem gL_o {M : M2} {r k a j : Nat} {v : Int64} (h : ¬ (a = r ∧ j = k)) : gL (sL M r k v) a j = gL M a j := if_neg h
/-! THE CLASS'S ROWS (in S) AND THE REFERENCE'S (in T) -/
def GR (w : Nat) : Nat := bif Nat.beq w 0 then 16 else bif Nat.beq w 2 then 16 else bif Nat.beq w 3 then 24 else bif Nat.beq w 4 then 4 else bif Nat.beq w 7 then 65536 else bif Nat.beq w 8 then 100 else bif Nat.beq w 10 then 65536 else 10
def StatW (S : M2) : Prop := (∀ w, w < 11 → gI S 0 w = nI (GR w - 1)) ∧ (∀ k, k < 8 → gI S 2 k = nI ([0, 0, 0, 2, 1, 3, 0, 6].getD k 0)) ∧ (∀ k, k < 32 → gI S 1 k = nI ([1, 10, 11, 2, 20, 0, 0, 0, 0, 30, 0, 0, 0, 41, 40, 0, 0, 0, 0, 50, 0, 0, 60, 61, 70, 0, 0, 0, 81, 80, 0, 0].getD k 0))
def HimW (S : M2) (h : Nat) : Prop := ∀ j, j < 7 → ix (gI S h j) < GR j
def HimR (S T : M2) : Prop := HimW S 5 ∧ ∀ j, j < 7 → gI T 68 j = gI S 5 j
def VilR (S T : M2) : Prop := ix (gI S 18 0) ≤ 6 ∧ gI T 67 2 = gI S 18 0 ∧ ∀ j, j < 6 → (ix (gI S 19 j) < 65536 ∧ ix (gI S 20 j) < 100 ∧ ix (gI S 21 j) < 10 ∧ (ix (gI S 18 0) ≤ j → gI S 22 j = 0)) ∧ gI T 69 j = gI S 19 j ∧ gI T 70 j = gI S 20 j ∧ gI T 71 j = gI S 21 j ∧ gI T 72 j = gI S 22 j
def SchR (S T : M2) : Prop := ix (gI S 26 0) ≤ 5 ∧ gI T 67 7 = gI S 26 0 ∧ ∀ j, j < 5 → ix (gI S 27 j) < 65536 ∧ gI T 73 j = gI S 27 j
def LedR (S T : M2) : Prop := (∀ j, j < 5 → gI T 98 j = gI S 33 j) ∧ (gI S 33 5 = 0 ∨ gI S 33 5 = 1) ∧ gI T 67 54 = gI S 33 5 ∧ (∀ j, j < 4 → ix (gI S 34 j) < GR j ∧ gI T 99 j = gI S 34 j) ∧ ∀ j, j < 5 → gI T 100 j = gI S 34 (4 + j)
def lnW (w : Nat) : Nat := bif Nat.blt w 7 then 1 else bif Nat.beq w 10 then 5 else 6
def ChgR (S T : M2) : Prop := ix (gI S 35 1) ≤ 40 ∧ ix (gI S 35 0) ≤ ix (gI S 35 1) ∧ gI T 67 9 = gI S 35 0 ∧ gI T 67 10 = gI S 35 1 - gI S 35 0 ∧ ∀ j, j < 40 → (ix (gI S 37 j) < 11 ∧ ix (gI S 36 j) < lnW (ix (gI S 37 j)) ∧ ix (gI S 38 j) < GR (ix (gI S 37 j)) ∧ ix (gI S 39 j) < GR (ix (gI S 37 j))) ∧ gI T 74 j = gI S 37 j ∧ gI T 75 j = gI S 36 j ∧ gI T 76 j = gI S 38 j ∧ gI T 77 j = gI S 39 j
def ActR (S T : M2) : Prop := ix (gI S 40 0) ≤ 50 ∧ gI T 67 57 = gI S 40 0 ∧ (∀ j, j < 50 → ix (gI S 41 j) < 8 ∧ gI T 101 j = gI S 41 j) ∧ ix (gI S 40 1) < 1000 ∧ gI T 67 59 = gI S 40 1 ∧ ∀ j, j < 24 → gI T 102 j = gI S 42 j
def ShfR1 (S T : M2) (i : Nat) : Prop := (gI S (shC i) 0 = 0 ∧ gI T 103 i = -1) ∨ (gI S (shC i) 0 = 1 ∧ gI T 103 i = gI S (shC i) 1 ∧ ix (gI S (shC i) 1) < ix (gI S 40 0)) ∨ (gI S (shC i) 0 = 2 ∧ gI T 103 i = -2 - gI S (shC i) 2 ∧ ix (gI S (shC i) 2) < 5 ∧ ix (gI S (shC i) 3) ≤ 60 ∧ gI T 104 i = gI S (shC i) 3 ∧ ∀ k, k < 60 → gL T 105 (60 * i + k) = gL S (shC i + 1) k)
def ShfR (S T : M2) : Prop := ∀ i, i < 6 → ShfR1 S T i
def TapR (S T : M2) : Prop := ix (gI S 7 0) ≤ 120 ∧ gI T 67 16 = gI S 7 0 ∧ ∀ j, j < 120 → ix (gI S 8 j) < 256 ∧ gI T 78 j = (gI S 8 j).toInt8.toInt32
