/-! WHAT HOLDS AT THE LAW'S ENTRY -/
def adO (t0 t1 t2 b B : Nat) (r : Nat) : Nat := bif Nat.beq r 0 then t0 else bif Nat.beq r 1 then t1 else bif Nat.beq r 2 then t2 else bif Nat.beq r 3 then b else B + (r - 4)
theorem adO_Ag {t0 t1 t2 b B : Nat} (h0 : t0 < B) (h1 : t1 < B) (h2 : t2 < B) (h3 : b < B) : Ag (adO t0 t1 t2 b B) B := by
  refine ⟨fun r hr => ?_, fun r hr => ?_⟩
  · unfold adO
    rw [beq_f (by omega : r ≠ 0), beq_f (by omega : r ≠ 1), beq_f (by omega : r ≠ 2), beq_f (by omega : r ≠ 3)]
    rfl
  · rcases (show r = 0 ∨ r = 1 ∨ r = 2 ∨ r = 3 by omega) with rfl | rfl | rfl | rfl
    · exact h0
    · exact h1
    · exact h2
    · exact h3
def SV (r j : Nat) : Int32 := bif Nat.beq r 0 then nI (GR j - 1) else bif Nat.beq r 1 then nI ([1, 10, 11, 2, 20, 0, 0, 0, 0, 30, 0, 0, 0, 41, 40, 0, 0, 0, 0, 50, 0, 0, 60, 61, 70, 0, 0, 0, 81, 80, 0, 0].getD j 0) else nI ([0, 0, 0, 2, 1, 3, 0, 6].getD j 0)
def scrI (L : Nat) (xs : Nat → Int32) : Nat → Int32
  | 0 => nI L
  | j + 1 => xs j
def mSt (L : Nat) (xs : Nat → Int32) : M2 := (fun r j => bif Nat.blt r 3 then SV r j else bif Nat.beq r 3 then scrI L xs j else 0, fun _ _ => 0)
theorem mSt_S (L : Nat) (xs : Nat → Int32) : StatW (mSt L xs) := ⟨fun _ _ => rfl, fun _ _ => rfl, fun _ _ => rfl⟩
/-! the words of the start -/
def sT (r : Nat) : Term := .static (zC r) (zF r) "[I"
def sw (r : Nat) : Nat → Cond
  | 0 => .arrayOf (sT r) .int
  | 1 => .eq (.length (sT r)) (.int (Int32.ofNat (ln r)))
  | j + 2 => .eq (.elem (sT r) (.int (Int32.ofNat j))) (.int (SV r j))
def fl_w : List Cond := flatC (Jvm.Cond.and given_1 narrow_1)
set_option maxRecDepth 100000 in
set_option maxHeartbeats 4000000 in
theorem sw_0 : (List.range 13).map (fun i => some (sw 0 i)) = ([5, 6, 7, 8, 9, 10, 11, 12, 13, 14, 15, 16, 17]).map (fun j => fl_w[j]?) := rfl
set_option maxRecDepth 100000 in
set_option maxHeartbeats 4000000 in
theorem sw_1 : (List.range 34).map (fun i => some (sw 1 i)) = ([19, 20, 21, 22, 23, 24, 25, 26, 27, 28, 29, 30, 31, 32, 33, 34, 35, 36, 37, 38, 39, 40, 41, 42, 43, 44, 45, 46, 47, 48, 49, 50, 51, 52]).map (fun j => fl_w[j]?) := rfl
set_option maxRecDepth 100000 in
set_option maxHeartbeats 4000000 in
theorem sw_2 : (List.range 10).map (fun i => some (sw 2 i)) = ([54, 55, 56, 57, 58, 59, 60, 61, 62, 63]).map (fun j => fl_w[j]?) := rfl
theorem sw_in {r k : Nat} (hr : r < 3) (hk : k < ln r + 2) : sw r k ∈ fl_w := by
  rcases (show r = 0 ∨ r = 1 ∨ r = 2 by omega) with rfl | rfl | rfl
  · exact mem_ch (f := fun i => sw 0 i) _ sw_0 hk
  · exact mem_ch (f := fun i => sw 1 i) _ sw_1 hk
  · exact mem_ch (f := fun i => sw 2 i) _ sw_2 hk
/-! a word by its number -/
theorem w_of {i : Nat} {t : Nat × Nat × Nat × Nat × Nat} {s : State} {args : Array Value} (hts : ∀ w ∈ lw_tbl, w.before args s = true) (h : wIs i t = true) : (wX i t).before args s = true := by
  rw [← wIs_T h]
  exact hts _ (wT_in (wIs_eq h).1)
def iO (k : Nat) : Nat := [284, 266, 184, 148, 178, 247, 298, 316, 228, 330, 208, 140, 993].getD k 0
theorem iO_ok : ∀ k, k < 13 → wIs (iO k) (11, 0, 0, k, 0) = true := by decide +kernel
theorem stat_r {s : State} {args : Array Value} {r : Nat} (hr : r < 3) (hts : ∀ w ∈ lw_tbl, w.before args s = true) (hs : ∀ w ∈ fl_w, w.before args s = true) : ∃ t : Nat, t < s.heap.size ∧ va_T .int t (ln r) (fun j => .int (SV r j)) (fun q => s.heap.size ≤ q) s s.heap ∧ va_Z (zC r) (zF r) "[I" (.ref t) (fun q => s.heap.size ≤ q) s s.heap := by
  have hA : ∀ a : Nat, a < s.heap.size → ¬ (fun q => s.heap.size ≤ q) a := fun a h => Nat.not_le.mpr h
  have h0 : (sw r 0).before args s = true := hs _ (sw_in hr (by omega))
  have h1 : (sw r 1).before args s = true := hs _ (sw_in hr (by omega))
  have h2 : ∀ j, j < ln r → (sw r (j + 2)).before args s = true := fun j hj => hs _ (sw_in hr (by omega))
  have hn : ln r < 2 ^ 31 := by rcases (show r = 0 ∨ r = 1 ∨ r = 2 by omega) with rfl | rfl | rfl <;> decide +kernel
  obtain ⟨t, ht, hT⟩ := va_Tof (tm := sT r) (f := fun j => .int (SV r j)) (A := fun q => s.heap.size ≤ q) hn h0 (va_eqt h1) (fun j hj => va_eqt (h2 j hj)) hA
  have hlt : t < s.heap.size := Nat.not_le.mp hT.out
  refine ⟨t, hlt, hT, ?_⟩
  have hl : (Cond.laysStatic (zC r) (zF r) "[I").before args s = true ∧ (Cond.initialized (zC r)).before args s = true := by
    rcases (show r = 0 ∨ r = 1 ∨ r = 2 by omega) with rfl | rfl | rfl
    · exact ⟨w_of (i := 366) (t := (16, 0, 0, 0, 0)) hts (by decide +kernel), w_of (i := 123) (t := (10, 11, 0, 0, 0)) hts (by decide +kernel)⟩
    · exact ⟨w_of (i := 932) (t := (16, 0, 0, 1, 0)) hts (by decide +kernel), w_of (i := 131) (t := (10, 0, 0, 0, 0)) hts (by decide +kernel)⟩
    · exact ⟨w_of (i := 934) (t := (16, 0, 0, 2, 0)) hts (by decide +kernel), w_of (i := 131) (t := (10, 0, 0, 0, 0)) hts (by decide +kernel)⟩
  exact va_Zref hl.1 hl.2 ht hA
/-! the tables -/
theorem arr_of {s : State} {ty : FieldType} {c : ClassId} {k : Class} {comp : ClassId} (h2 : s.vm.classes[c]? = some k) (h3 : k.kind = .array comp ty) : ArrOfT s c ty := fun _ _ => ⟨(fun _ h => by cases h), k, h2, comp, h3⟩
theorem tab_K {s : State} {args : Array Value} (hts : ∀ w ∈ lw_tbl, w.before args s = true) : ∃ (D : va_G) (cy : Nat → ClassId), va_K D vwCl (tys cy) s := by
  have h1 : ∀ k, ∃ q : ClassId × (Nat → Nat), k < 13 → u_Kn s (cq k).1 (cq k).2.1 (cq k).2.2 q.1 q.2 := by
    intro k
    by_cases h : k < 13
    · obtain ⟨c, i, h2⟩ := u_known (C := (cq k).1) (T := (cq k).2.1) (N := (cq k).2.2) (n := (cq k).2.2) hts (inC k h) (w_of hts (iO_ok k h))
      exact ⟨(c, i), fun _ => h2⟩
    · exact ⟨(0, fun _ => 0), fun q => absurd q h⟩
  obtain ⟨a0, k0, p0, e0, f0, g0⟩ := Cond.arrayClass_spec (w_of (i := 199) (t := (12, 0, 0, 0, 0)) hts (by decide +kernel))
  obtain ⟨a1, k1, p1, e1, f1, g1⟩ := Cond.arrayClass_spec (w_of (i := 314) (t := (12, 0, 0, 1, 0)) hts (by decide +kernel))
  obtain ⟨a2, k2, p2, e2, f2, g2⟩ := Cond.arrayClass_spec (w_of (i := 1062) (t := (12, 0, 0, 2, 0)) hts (by decide +kernel))
  obtain ⟨a3, k3, p3, e3, f3, g3⟩ := Cond.arrayClass_spec (w_of (i := 1063) (t := (12, 0, 0, 3, 0)) hts (by decide +kernel))
  obtain ⟨comp, a4, k4, e4, -, f4, g4, n4⟩ := Cond.arrayOver_spec (w_of (i := 329) (t := (13, 0, 0, 0, 0)) hts (by decide +kernel))
  refine ⟨(fun k => Classical.choose (h1 k) |>.1, fun k => (Classical.choose (h1 k)).2), fun k => bif Nat.beq k 20 then a0 else bif Nat.beq k 21 then a2 else bif Nat.beq k 22 then a3 else bif Nat.beq k 23 then a1 else a4, ?_, ?_⟩
  · intro k q hq
    by_cases h : k < 13
    · rw [clC k h] at hq
      cases hq
      exact Classical.choose_spec (h1 k) h
    · exact absurd (List.getElem?_eq_some_iff.mp hq).1 h
  · intro k q hq
    match k, hq with
    | 0, hq => cases hq; exact ⟨arr_of f0 g0, e0⟩
    | 1, hq => cases hq; exact ⟨arr_of f2 g2, e2⟩
    | 2, hq => cases hq; exact ⟨arr_of f3 g3, e3⟩
    | 3, hq => cases hq; exact ⟨arr_of f1 g1, e1⟩
    | 4, hq => cases hq; exact ⟨arr_of f4 g4, k4, comp, f4, g4, e4, n4⟩
    | k + 5, hq => simp [tys] at hq
theorem tab_N {s : State} {args : Array Value} (hts : ∀ w ∈ lw_tbl, w.before args s = true) : Nx s := by
  refine ⟨fun i hi h2 => ?_, va_AO.of (w_of (i := 329) (t := (13, 0, 0, 0, 0)) hts (by decide +kernel))⟩
  have h3 := hts _ (wT_in hi)
  unfold wT at h3 ⊢
  cases hq : wQ i with
  | mk a t =>
    obtain ⟨p', q, r, z⟩ := t
    try rw [hq] at h2 h3
    have h2 : a = 2 := h2
    subst h2
    exact va_tabs rfl rfl h3
