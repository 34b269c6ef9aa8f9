/-! stalls -/
theorem lg_lt {x y : Int64} : lg_cmp x y < 0 ↔ x.toInt < y.toInt := by
  unfold lg_cmp
  by_cases h : x > y
  · rw [if_pos h]
    have : y.toInt < x.toInt := Int64.lt_iff_toInt_lt.mp h
    exact ⟨fun q => absurd q (by decide), fun q => absurd q (by omega)⟩
  · rw [if_neg h]
    have : ¬ y.toInt < x.toInt := fun q => h (Int64.lt_iff_toInt_lt.mpr q)
    by_cases e : x = y
    · rw [if_pos e]
      subst e
      exact ⟨fun q => absurd q (by decide), fun q => absurd q (by omega)⟩
    · rw [if_neg e]
      have : x.toInt ≠ y.toInt := fun q => e (Int64.toInt_inj.mp q)
      exact ⟨fun _ => by omega, fun _ => by decide⟩
theorem lg_ge {x y : Int64} : 0 ≤ lg_cmp x y ↔ y.toInt ≤ x.toInt := by
  have := lg_lt (x := x) (y := y)
  rw [i_lt, z_toInt] at this
  rw [i_le, z_toInt]
  omega
def iA (M : M2) (s : Nat) (x : Int32) (t j : Nat) : Int32 := (gL M (shC s + 1) (ix x + 3 * t + j)).toInt32
def okA (M : M2) (s : Nat) (x : Int32) (t : Nat) : Bool := rg x 61 && (Nat.ble (ix x + (3 * t + 3)) (ix (gI M (shC s) 3)) && (Nat.blt (ix (gI M 18 0)) 6 && (rg (iA M s x t 0) 65536 && (rg (iA M s x t 1) 100 && rg (iA M s x t 2) 10))))
def addS (M : M2) (l p e : Int32) : M2 := sI (sI (sI (sI M 19 (ix (gI M 18 0)) l) 20 (ix (gI M 18 0)) p) 21 (ix (gI M 18 0)) e) 18 0 (gI M 18 0 + 1)
def addT (T : M2) (c : Nat) (l p e v : Int32) : M2 := sI (sI (sI (sI (sI T 69 c l) 70 c p) 71 c e) 72 c 0) 67 2 v
def stR (s : Nat) (x : Int32) : Nat → Nat → M2 → Nat × M2
  | 0, t, M => (t, M)
  | m + 1, t, M => bif okA M s x t then stR s x m (t + 1) (addS M (iA M s x t 0) (iA M s x t 1) (iA M s x t 2)) else (t, M)
theorem VilR_add {S T : M2} (h : VilR S T) {l p e : Int32} (hl : ix l < 65536) (hp : ix p < 100) (he : ix e < 10) (hc : ix (gI S 18 0) < 6) : VilR (addS S l p e) (addT T (ix (gI S 18 0)) l p e (gI S 18 0 + 1)) := by
  have hs := ix_succ (v := gI S 18 0) (by omega)
  unfold addS addT
  refine ⟨?_, ?_, ?_⟩
  · rw [gI_s, hs]; omega
  · rw [gI_s, gI_s]
  · intro j hj
    have q := h.2.2 j hj
    by_cases hjc : j = ix (gI S 18 0)
    · subst hjc
      simp [gI_if, hs]
      exact ⟨⟨hl, hp, he, fun h => absurd h (by omega)⟩, (q.1.2.2.2 (Nat.le_refl _)).symm⟩
    · simp [gI_if, hs, hjc]
      exact ⟨⟨q.1.1, q.1.2.1, q.1.2.2.1, fun h => q.1.2.2.2 (by omega)⟩, q.2.1, q.2.2.1, q.2.2.2.1, q.2.2.2.2⟩
theorem VilR_S {S S' T : M2} (h : VilR S T) (h0 : gI S' 18 0 = gI S 18 0) (h1 : ∀ j, gI S' 19 j = gI S 19 j) (h2 : ∀ j, gI S' 20 j = gI S 20 j) (h3 : ∀ j, gI S' 21 j = gI S 21 j) (h4 : ∀ j, gI S' 22 j = gI S 22 j) : VilR S' T := by
  unfold VilR
  simp only [h0, h1, h2, h3, h4]
  exact h
theorem agr_addS {q : Nat → Nat → Bool} {M : M2} {l p e : Int32} (h : q 18 0 = false) (h1 : ∀ j, q 19 j = false) (h2 : ∀ j, q 20 j = false) (h3 : ∀ j, q 21 j = false) : agr q M (addS M l p e) := agr_sI h (agr_sI (h3 _) (agr_sI (h2 _) (agr_sI (h1 _) (agr_r M))))
theorem agr_addT {q : Nat → Nat → Bool} {T : M2} {c : Nat} {l p e v : Int32} (h : q 67 2 = false) (h1 : ∀ j, q 69 j = false) (h2 : ∀ j, q 70 j = false) (h3 : ∀ j, q 71 j = false) (h4 : ∀ j, q 72 j = false) : agr q T (addT T c l p e v) := agr_sI h (agr_sI (h4 _) (agr_sI (h3 _) (agr_sI (h2 _) (agr_sI (h1 _) (agr_r T)))))
def frV : Nat → Nat → Bool := fun r j => nin [69, 70, 71, 72] r && !(Nat.beq r 67 && Nat.beq j 2)
theorem frV_m {q : Nat → Nat → Bool} (h1 : ∀ j, q 69 j = false) (h2 : ∀ j, q 70 j = false) (h3 : ∀ j, q 71 j = false) (h4 : ∀ j, q 72 j = false) (h : q 67 2 = false) {N N' : M2} (ha : agr frV N N') : agr q N N' := by
  refine agr_m (fun r j hq => ?_) ha
  unfold frV
  rw [nin_c (l := [69, 70, 71, 72]) (q := q) (fun a ha j => by
    have : a = 69 ∨ a = 70 ∨ a = 71 ∨ a = 72 := by simpa using ha
    rcases this with e | e | e | e <;> subst e
    · exact h1 j
    · exact h2 j
    · exact h3 j
    · exact h4 j) r j hq]
  cases h67 : Nat.beq r 67 with
  | false => rfl
  | true =>
    cases h2 : Nat.beq j 2 with
    | false => rfl
    | true =>
      have e1 := Nat.eq_of_beq_eq_true h67
      have e2 := Nat.eq_of_beq_eq_true h2
      subst e1 e2
      rw [h] at hq
      exact absurd hq (by decide)
theorem ble_t {a c : Nat} (h : a ≤ c) : Nat.ble a c = true := Nat.ble_eq_true_of_le h
theorem ble_f {a c : Nat} (h : ¬ a ≤ c) : Nat.ble a c = false := by
  cases hb : Nat.ble a c with
  | false => rfl
  | true => exact absurd (Nat.le_of_ble_eq_true hb) h
section STALLS
variable {d : Nat} {b : Bool} {M : M2}
theorem c20 {f : Int32 → Mm → Prop} {x : Int32} {s t : Nat} (hd : 3 ≤ d) (hs : s < 6) (hS : StatW M) (hz : ix (gI M (shC s) 3) ≤ 60) (hc : ix (gI M 18 0) ≤ 6) (ht : t ≤ 6) (k0 : okA M s x t = false → f 0 (FR b, M)) (k1 : okA M s x t = true → f 1 (FR b, addS M (iA M s x t 0) (iA M s x t 1) (iA M s x t 2))) : WP d 107 20 0 [.ref 4, .ref (shC s), .int x, .int (nI t), U, U, U, U] [] 107 (FR b, M) (rI f) := by
  obtain ⟨d, rfl⟩ := ex1 (e := 2) hd
  have hk := sh_kd s hs
  have x1 := ix_t x
  have z1 := ix_t (gI M (shC s) 3)
  have hl := lt_n (v := gI M 18 0) (c := 6) (n := 6) rfl (by decide) hc
  refine v20_0 ⟨fun h => ?_, fun h => oK_i hk.2.1 hk.1 ⟨fun h2 => ?_, fun h2 => oK_i hk.2.1 hk.1 ⟨fun h3 => ?_, fun h3 => ⟨fun h4 => ?_, fun h4 => ?_⟩⟩⟩⟩
  · rw [i_lt, z_toInt] at h
    refine k0 ?_
    unfold okA
    rw [rg_f.mpr (by omega)]; rfl
  · rw [i_lt, z_toInt] at h
    rw [i_lt] at h2
    refine k0 ?_
    unfold okA
    rw [ble_f (by omega), Bool.false_and, Bool.and_false]
  all_goals
    rw [i_lt, z_toInt] at h
    rw [i_lt] at h2
    have hx : ix x ≤ 60 := by omega
    have e0 : (x + 3 * nI t : Int32) = nI (ix x + 3 * t) := by rw [show (3 : Int32) = nI 3 from rfl, nI_mul, ← n_ix x, nI_add, n_ix]
    rw [e0] at h3
    have e3 : (nI (ix x + 3 * t) + 3 : Int32) = nI (ix x + (3 * t + 3)) := by rw [show (3 : Int32) = nI 3 from rfl, nI_add, Nat.add_assoc]
    rw [e3] at h3
    rw [i_lt, nI_toInt (by omega)] at h3
  · refine k0 ?_
    unfold okA
    rw [ble_f (by omega), Bool.false_and, Bool.and_false]
  · have h4' := hl.1.mp h4
    rw [e0]
    have e1 : (nI (ix x + 3 * t) + 1 : Int32) = nI (ix x + 3 * t + 1) := by rw [show (1 : Int32) = nI 1 from rfl, nI_add]
    have e2 : (nI (ix x + 3 * t) + 2 : Int32) = nI (ix x + 3 * t + 2) := by rw [show (2 : Int32) = nI 2 from rfl, nI_add]
    rw [e1, e2]
    have it : ∀ j, j < 3 → itV M s (nI (ix x + 3 * t + j)) = gL M (shC s + 1) (ix x + 3 * t + j) := by
      intro j hj
      have ej : ix (nI (ix x + 3 * t + j)) = ix x + 3 * t + j := ix_n (by omega)
      unfold itV
      rw [rg_t.mpr (by rw [ej]; omega), ej]
      rfl
    have hok : okA M s x t = (rg (iA M s x t 0) 65536 && (rg (iA M s x t 1) 100 && rg (iA M s x t 2) 10)) := by
      unfold okA
      rw [rg_t.mpr (by omega), ble_t (by omega), blt_i.mpr h4']
      rfl
    rw [hok] at k0 k1
    refine oK_i hk.2.1 hk.1 (c21 (by omega) hs hz ⟨rfl, oK_i hk.2.1 hk.1 (c21 (by omega) hs hz ⟨rfl, oK_i hk.2.1 hk.1 (c21 (by omega) hs hz ⟨rfl, ?_⟩)⟩)⟩)
    rw [it 1 (by decide), it 2 (by decide), show itV M s (nI (ix x + 3 * t)) = gL M (shC s + 1) (ix x + 3 * t + 0) from it 0 (by decide)]
    show WP d 107 14 0 [.int 7, .int (iA M s x t 0)] [] 107 (FR b, M) (rI (fun v8 N7 => N7.1 = FR b ∧ (brK (v8 = 0) (f 0 (FR b, N7.2)) (WP d 107 14 0 [.int 8, .int (iA M s x t 1)] [] 107 (FR b, N7.2) (rI (fun v10 N9 => N9.1 = FR b ∧ (brK (v10 = 0) (f 0 (FR b, N9.2)) (WP d 107 14 0 [.int 9, .int (iA M s x t 2)] [] 107 (FR b, N9.2) (rI (fun v12 N11 => N11.1 = FR b ∧ (brK (v12 = 0) (f 0 (FR b, N11.2)) (WP d 107 16 0 [.ref 18, .int (iA M s x t 0), .int (iA M s x t 1), .int (iA M s x t 2)] [] 107 (FR b, N11.2) (rI (fun v14 N13 => N13.1 = FR b ∧ (brK (v14 < 0) (f 0 (FR b, N13.2)) (f 1 (FR b, N13.2)))))))))))))))))
    refine c14 (by omega) hS (by decide) ⟨rfl, brK_b (fun g => ?_) (fun g => c14 (by omega) hS (by decide) ⟨rfl, brK_b (fun g2 => ?_) (fun g2 => c14 (by omega) hS (by decide) ⟨rfl, brK_b (fun g3 => ?_) (fun g3 => ?_)⟩)⟩)⟩
    · have g : rg (iA M s x t 0) 65536 = false := g
      exact k0 (by rw [g]; rfl)
    · have g2 : rg (iA M s x t 1) 100 = false := g2
      exact k0 (by rw [g2, Bool.false_and, Bool.and_false])
    · have g3 : rg (iA M s x t 2) 10 = false := g3
      exact k0 (by rw [g3, Bool.and_false, Bool.and_false])
    · have g : rg (iA M s x t 0) 65536 = true := g
      have g2 : rg (iA M s x t 1) 100 = true := g2
      have g3 : rg (iA M s x t 2) 10 = true := g3
      have c1 := ix_t (gI M 18 0)
      obtain ⟨d, rfl⟩ := ex1 (e := 1) (d := d) (by omega)
      refine v16_0 (brK_t h4 (iK_i h4' (iK_i h4' (iK_i h4' ⟨rfl, ?_⟩))))
      rw [Int32.add_sub_cancel]
      exact brK_f (by show ¬ gI M 18 0 < 0; rw [i_lt, z_toInt]; omega) (k1 (by rw [g, g2, g3]; rfl))
  · have h4' := mt hl.1.mpr h4
    refine k0 ?_
    unfold okA
    rw [blt_f.mpr h4', Bool.false_and, Bool.and_false, Bool.and_false]
theorem l17 {f : Int32 → Mm → Prop} {x : Int32} {s n : Nat} {u1 : Value} {M0 : M2} (hd : 3 ≤ d) (hs : s < 6) (hn : n ≤ 6) (hS : StatW M0) (hz : ix (gI M0 (shC s) 3) ≤ 60) : ∀ m t (M : M2), t + m = n → agr (fr [18, 19, 20, 21]) M0 M → ix (gI M 18 0) ≤ 6 → f (nI (stR s x m t M).1) (FR b, (stR s x m t M).2) → WP (d + 1) 107 17 50 [.ref 4, u1, .int x, .int (nI n), .ref (shC s), .int (nI t)] [] 107 (FR b, M) (rI f) := by
  intro m
  induction m with
  | zero =>
    intro t M ht hM h18 k
    have : t = n := by omega
    subst this
    exact v17_50 (brK_t (by rw [i_le]; exact Int.le_refl _) k)
  | succ m ih =>
    intro t M ht hM h18 k
    have ne : ∀ i, i < 6 → nin [18, 19, 20, 21] (shC i) = true := by decide
    unfold stR at k
    refine v17_50 (brK_f (by rw [nI_leI (by omega) (by omega)]; omega) (c20 (s := s) (t := t) (by omega) hs (StatW_a (fr_m (fun a ha j => by
      have : a = 18 ∨ a = 19 ∨ a = 20 ∨ a = 21 := by simpa using ha
      rcases this with e | e | e | e <;> subst e <;> rfl) hM) hS) (by rw [agr_nI hM (ne s hs)]; exact hz) h18 (by omega) (fun h => ⟨rfl, ?_⟩) (fun h => ⟨rfl, ?_⟩)))
    · rw [h] at k
      exact brK_t rfl k
    · rw [h] at k
      refine brK_f (by decide) ?_
      rw [nI_1]
      refine ih (t + 1) _ (by omega) (agr_t hM (agr_addS rfl (fun _ => rfl) (fun _ => rfl) (fun _ => rfl))) ?_ k
      have h6 : ix (gI M 18 0) < 6 := by
        unfold okA at h
        rw [Bool.and_eq_true, Bool.and_eq_true, Bool.and_eq_true] at h
        exact blt_i.mp h.2.2.1
      show ix (gI (sI _ 18 0 (gI M 18 0 + 1)) 18 0) ≤ 6
      rw [gI_s, ix_succ (by omega)]
      omega
theorem c181 {f : Int32 → Mm → Prop} {N : M2} {c : Nat} {l p e : Int32} (hd : 1 ≤ d) (hc : c < 6) (h2 : gI N 67 2 = nI c) (k : f (nI c) (FR b, addT N c l p e (nI c + 1))) : WP d 107 181 0 [.ref 67, .int l, .int p, .int e] [] 107 (FR b, N) (rI f) := by
  obtain ⟨d, rfl⟩ := ex1 hd
  have ec : ix (nI c) = c := ix_n (by omega)
  refine v181_0 ?_
  rw [h2]
  refine iK_i (by omega) (iK_i (by omega) (iK_i (by omega) (iK_i (by omega) ?_)))
  rw [Int32.add_sub_cancel, ec]
  exact k
theorem l182 {f : Int32 → Mm → Prop} {x w : Int32} {n : Nat} {N0 M0 : M2} (hd : 3 ≤ d) (hw : ix w < 6) (hn : n ≤ 6) (h104 : gI N0 104 (ix w) = gI M0 (shC (ix w)) 3) (hz : ix (gI M0 (shC (ix w)) 3) ≤ 60) (h105 : ∀ k, k < 60 → gL N0 105 (60 * ix w + k) = gL M0 (shC (ix w) + 1) k) : ∀ m t (M N : M2) (u5 u6 u7 : Value), t + m = n → (t ≠ 0 → 0 ≤ x.toInt) → agr (fr [18, 19, 20, 21]) M0 M → agr frV N0 N → VilR M N → (∀ N', agr frV N0 N' → VilR (stR (ix w) x m t M).2 N' → f (nI (stR (ix w) x m t M).1) (FR b, N')) → WP (d + 1) 107 182 58 [.ref 67, .int w, .int x, .int (nI n), .int (nI t), u5, u6, u7] [] 107 (FR b, N) (rI f) := by
  intro m
  induction m with
  | zero =>
    intro t M N u5 u6 u7 ht hx hM hN hV k
    have : t = n := by omega
    subst this
    exact v182_58 (brK_t (by rw [i_le]; exact Int.le_refl _) (k N hN hV))
  | succ m ih =>
    intro t M N u5 u6 u7 ht hx hM hN hV k
    have ne : ∀ i, i < 6 → nin [18, 19, 20, 21] (shC i) = true ∧ nin [18, 19, 20, 21] (shC i + 1) = true := by decide
    have g3 : gI M (shC (ix w)) 3 = gI M0 (shC (ix w)) 3 := agr_nI hM (ne _ hw).1
    have x1 := ix_t x
    have z1 := ix_t (gI M0 (shC (ix w)) 3)
    have e104 : gI N 104 (ix w) = gI M0 (shC (ix w)) 3 := (agr_nI hN rfl).trans h104
    have i0 : (0 : Int64).toInt = 0 := rfl
    have i2 : (2 : Int64).toInt = 2 := rfl
    have eX : (x.toInt64 + (3 * nI t).toInt64 : Int64).toInt = x.toInt + 3 * t := by
      rw [show (3 : Int32) = nI 3 from rfl, nI_mul, Int64.toInt_add, Int32.toInt_toInt64, Int32.toInt_toInt64, nI_toInt (by omega), Int.bmod_eq_of_le (by omega) (by omega)]
      omega
    have eX2 : (x.toInt64 + (3 * nI t).toInt64 + 2 : Int64).toInt = x.toInt + 3 * t + 2 := by
      rw [Int64.toInt_add, eX, i2, Int.bmod_eq_of_le (by omega) (by omega)]
    have stop : okA M (ix w) x t = false → f (nI t) (FR b, N) := fun h => by
      have k2 := k N hN
      unfold stR at k2
      rw [h] at k2
      exact k2 hV
    refine v182_58 (brK_f (by rw [nI_leI (by omega) (by omega)]; omega) ⟨fun h => ?_, fun h => iK_i hw ⟨fun h2 => ?_, fun h2 => ⟨fun h3 => ?_, fun h3 => ?_⟩⟩⟩)
    · rw [lg_lt, eX, i0] at h
      refine stop ?_
      unfold okA
      rw [rg_f.mpr (by omega)]; rfl
    all_goals
      rw [lg_lt, eX, i0] at h
      rw [lg_ge, eX2, e104, Int32.toInt_toInt64] at h2
    · refine stop ?_
      unfold okA
      by_cases q : ix x < 61
      · rw [ble_f (by rw [g3]; omega), Bool.false_and, Bool.and_false]
      · rw [rg_f.mpr q]; rfl
    · refine stop ?_
      unfold okA
      rw [hV.2.1] at h3
      have := (ix_eq (n := 6) (by decide)).mp h3
      rw [blt_f.mpr (by omega), Bool.false_and, Bool.and_false, Bool.and_false]
    · have h3' : ix (gI M 18 0) < 6 := by
        have := hV.1
        have : ix (gI M 18 0) ≠ 6 := fun e => h3 (hV.2.1.trans ((ix_eq (n := 6) (by decide)).mpr e))
        omega
      have hx0 : 0 ≤ x.toInt := by
        by_cases e : t = 0
        · subst e; omega
        · exact hx e
      have ha : ix x + (3 * t + 3) ≤ ix (gI M0 (shC (ix w)) 3) := by omega
      have eI : (x.toInt64 + (3 * nI t).toInt64 : Int64).toInt32 = nI (ix x + 3 * t) := by
        apply i_eq.mpr
        rw [Int64.toInt_toInt32, eX, nI_toInt (by omega), Int.bmod_eq_of_le (by omega) (by omega)]
        omega
      have eP : (60 * w + nI (ix x + 3 * t) : Int32) = nI (60 * ix w + (ix x + 3 * t)) := by
        rw [show (60 : Int32) = nI 60 from rfl, ← n_ix w, nI_mul, nI_add, n_ix]
      have e1 : (nI (60 * ix w + (ix x + 3 * t)) + 1 : Int32) = nI (60 * ix w + (ix x + 3 * t + 1)) := by rw [show (1 : Int32) = nI 1 from rfl, nI_add, Nat.add_assoc]
      have e2 : (nI (60 * ix w + (ix x + 3 * t)) + 2 : Int32) = nI (60 * ix w + (ix x + 3 * t + 2)) := by rw [show (2 : Int32) = nI 2 from rfl, nI_add, Nat.add_assoc]
      have cell : ∀ j, j < 3 → (gL N 105 (ix (nI (60 * ix w + (ix x + 3 * t + j))))).toInt32 = iA M (ix w) x t j := by
        intro j hj
        unfold iA
        rw [ix_n (by omega), agr_nL hN rfl, h105 _ (by omega), agr_nL hM (ne _ hw).2]
      have l6 : ∀ j, j < 3 → ix (nI (60 * ix w + (ix x + 3 * t + j))) < 360 := by
        intro j hj
        rw [ix_n (by omega)]; omega
      have hok : okA M (ix w) x t = (rg (iA M (ix w) x t 0) 65536 && (rg (iA M (ix w) x t 1) 100 && rg (iA M (ix w) x t 2) 10)) := by
        unfold okA
        rw [rg_t.mpr (by omega), ble_t (by rw [g3]; exact ha), blt_i.mpr h3']
        rfl
      rw [hok] at stop
      refine v182_110 ?_
      rw [eI, eP]
      refine iK_i (l6 0 (by decide)) (c180n 65535 (by omega) rfl (by decide) ⟨rfl, brK_b (fun g => ?_) (fun g => v182_137 ?_)⟩)
      · have g : rg (gL N 105 (ix (nI (60 * ix w + (ix x + 3 * t + 0))))).toInt32 65536 = false := g
        rw [cell 0 (by decide)] at g
        exact stop (by rw [g]; rfl)
      have g : rg (gL N 105 (ix (nI (60 * ix w + (ix x + 3 * t + 0))))).toInt32 65536 = true := g
      rw [cell 0 (by decide)] at g
      rw [e1]
      refine iK_i (l6 1 (by decide)) (c180n 99 (by omega) rfl (by decide) ⟨rfl, brK_b (fun g2 => ?_) (fun g2 => v182_156 ?_)⟩)
      · have g2 : rg (gL N 105 (ix (nI (60 * ix w + (ix x + 3 * t + 1))))).toInt32 100 = false := g2
        rw [cell 1 (by decide)] at g2
        exact stop (by rw [g2, Bool.false_and, Bool.and_false])
      have g2 : rg (gL N 105 (ix (nI (60 * ix w + (ix x + 3 * t + 1))))).toInt32 100 = true := g2
      rw [cell 1 (by decide)] at g2
      rw [e2]
      refine iK_i (l6 2 (by decide)) (c180n 9 (by omega) rfl (by decide) ⟨rfl, brK_b (fun g3 => ?_) (fun g3 => v182_178 ?_)⟩)
      · have g3 : rg (gL N 105 (ix (nI (60 * ix w + (ix x + 3 * t + 2))))).toInt32 10 = false := g3
        rw [cell 2 (by decide)] at g3
        exact stop (by rw [g3, Bool.and_false, Bool.and_false])
      have g3 : rg (gL N 105 (ix (nI (60 * ix w + (ix x + 3 * t + 2))))).toInt32 10 = true := g3
      rw [cell 2 (by decide)] at g3
      have hk : okA M (ix w) x t = true := by rw [hok, g, g2, g3]; rfl
      dsimp only
      rw [e1, e2]
      refine iK_i (l6 0 (by decide)) (iK_i (l6 1 (by decide)) (iK_i (l6 2 (by decide)) ?_))
      rw [cell 1 (by decide), cell 2 (by decide), show (gL N 105 (ix (nI (60 * ix w + (ix x + 3 * t))))).toInt32 = iA M (ix w) x t 0 from cell 0 (by decide)]
      refine c181 (c := ix (gI M 18 0)) (by omega) h3' (by rw [hV.2.1]; exact (n_ix _).symm) ⟨rfl, ?_⟩
      rw [nI_1, n_ix]
      unfold stR at k
      rw [hk] at k
      refine ih (t + 1) (addS M (iA M (ix w) x t 0) (iA M (ix w) x t 1) (iA M (ix w) x t 2)) _ _ _ _ (by omega) (fun _ => hx0) (agr_t hM (agr_addS rfl (fun _ => rfl) (fun _ => rfl) (fun _ => rfl))) (agr_t hN (agr_addT rfl (fun _ => rfl) (fun _ => rfl) (fun _ => rfl) (fun _ => rfl))) (VilR_add hV (rg_tt g) (rg_tt g2) (rg_tt g3) h3') k
theorem stR_a {s : Nat} {x : Int32} {q : Nat → Nat → Bool} (h : q 18 0 = false) (h1 : ∀ j, q 19 j = false) (h2 : ∀ j, q 20 j = false) (h3 : ∀ j, q 21 j = false) : ∀ m t (M : M2), agr q M (stR s x m t M).2 := by
  intro m
  induction m with
  | zero => intro t M; exact agr_r M
  | succ m ih =>
    intro t M
    unfold stR
    cases okA M s x t with
    | false => exact agr_r M
    | true => exact agr_t (agr_addS h h1 h2 h3) (ih (t + 1) _)
theorem P_stalls (hI : INV b M) {x y n : Int32} : PAIR b M 17 182 [.ref 4, .int x, .int y, .int n, U, U] [.ref 67, .int x, .int y, .int n, U, U, U, U] := by
  obtain ⟨hS, hH, hV, hSc, hL, hC, hA, hSh, hT, hLw⟩ := id hI
  intro d hd f k
  obtain ⟨d, rfl⟩ := ex1 (e := 199) hd
  have n1 := ix_t n
  have rn : inV n 1 6 = (decide (1 ≤ n) && decide (n ≤ 6)) := rfl
  have lo : n < 1 ↔ ¬ 1 ≤ n := by rw [i_lt, i_le]; omega
  refine v17_0 (c18 (by omega) (fun h => ⟨rfl, ?_⟩) (fun h => ⟨rfl, ⟨fun h2 => ?_, fun h2 => ⟨fun h3 => ?_, fun h3 => ?_⟩⟩⟩))
  · exact k _ M rfl (fun f2 k2 => v182_0 (c183 (by omega) ⟨rfl, brK_b (fun _ => k2 M hI rfl) (fun q => ff h q)⟩))
  · refine k _ M rfl (fun f2 k2 => v182_0 (c183 (by omega) ⟨rfl, brK_b (fun q => ff q h) (fun _ => c180 (by omega) ⟨rfl, ?_⟩)⟩))
    rw [rn, decide_eq_false (lo.mp h2), Bool.false_and]
    exact brK_t rfl (k2 M hI rfl)
  · have hs := rg_tt h
    have hk := sh_kd _ hs
    have h1n : (1 : Int32) ≤ n := Classical.not_not.mp (mt lo.mpr h2)
    have hn : 1 ≤ ix n ∧ ix n ≤ 6 := by
      rw [i_le, one_toInt] at h1n
      rw [i_le, show (6 : Int32).toInt = 6 from rfl] at h3
      omega
    have go : ∀ (N : M2) (f2 : Int32 → Mm → Prop), (iK x 6 (brK ((gI N 103 (ix x)) = (-1)) (iK x 6 (brK ((gI N 103 (ix x)) = (-1)) (f2 0 (FR b, N)) (WP (d + 1) 107 182 58 [.ref 67, .int x, .int y, .int n, .int 0, U, U, U] [] 107 (FR b, N) (rI f2)))) (iK x 6 (brK ((gI N 103 (ix x)) = (-4)) (iK x 6 (brK ((gI N 103 (ix x)) = (-1)) (f2 0 (FR b, N)) (WP (d + 1) 107 182 58 [.ref 67, .int x, .int y, .int n, .int 0, U, U, U] [] 107 (FR b, N) (rI f2)))) (f2 (-12) (FR b, N)))))) → WP (d + 1) 107 182 0 [.ref 67, .int x, .int y, .int n, U, U, U, U] [] 107 (FR b, N) (rI f2) := by
      intro N f2 q
      refine v182_0 (c183 (by omega) ⟨rfl, brK_b (fun q => ff q h) (fun _ => c180 (by omega) ⟨rfl, ?_⟩)⟩)
      rw [rn, decide_eq_true h1n, decide_eq_true h3]
      exact brK_f (by decide) q
    refine oK_i hk.2.1 hk.1 ⟨fun h4 => ?_, fun h4 => oK_i hk.2.1 hk.1 (c19 (by omega) hs ⟨rfl, brK_b (fun h5 => ?_) (fun h5 => ?_)⟩)⟩
    · refine k _ M rfl (fun f2 k2 => go M f2 (iK_i hs (brK_t ?_ (iK_i hs (brK_t ?_ (k2 M hI rfl))))))
      all_goals
        rcases hSh _ hs with q | q | q
        · exact q.2
        · rw [h4] at q; exact absurd q.1 (by decide)
        · rw [h4] at q; exact absurd q.1 (by decide)
    · refine k _ M rfl (fun f2 k2 => go M f2 (iK_i hs (brK_f ?_ (iK_i hs (brK_f ?_ (k2 M hI rfl))))))
      · rcases hSh _ hs with q | q | q
        · exact absurd q.1 h4
        · rw [q.2.1]
          intro e
          rw [e] at q
          have := hA.1
          exact absurd q.2.2 (by rw [show ix (-1) = 4294967295 from rfl]; omega)
        · rw [q.2.1]
          exact (srt q.2.2.1).1
      · rcases hSh _ hs with q | q | q
        · exact absurd q.1 h4
        · rw [q.2.1]
          intro e
          rw [e] at q
          have := hA.1
          exact absurd q.2.2 (by rw [show ix (-4) = 4294967292 from rfl]; omega)
        · rw [q.2.1]
          intro e
          have : gI M (shC (ix x)) 2 = 2 := by
            have : -2 - (-2 - gI M (shC (ix x)) 2) = -2 - (-4 : Int32) := by rw [e]
            rw [(srt q.2.2.1).2.2] at this
            rw [this]; rfl
          unfold isRowV at h5
          rw [decide_eq_true q.1, decide_eq_true this] at h5
          exact absurd h5 (by decide)
    · unfold isRowV at h5
      rw [Bool.and_eq_true] at h5
      have g0 := of_decide_eq_true h5.1
      have g2 := of_decide_eq_true h5.2
      have q : gI M 103 (ix x) = -2 - gI M (shC (ix x)) 2 ∧ ix (gI M (shC (ix x)) 2) < 5 ∧ ix (gI M (shC (ix x)) 3) ≤ 60 ∧ gI M 104 (ix x) = gI M (shC (ix x)) 3 ∧ ∀ k, k < 60 → gL M 105 (60 * ix x + k) = gL M (shC (ix x) + 1) k := by
        rcases hSh _ hs with q | q | q
        · exact absurd q.1 h4
        · rw [g0] at q; exact absurd q.1 (by decide)
        · exact q.2
      have e103 : gI M 103 (ix x) = -4 := by rw [q.1, g2]; rfl
      have ln := l17 (d := d) (b := b) (f := f) (x := y) (s := ix x) (n := ix n) (u1 := .int x) (M0 := M) (by omega) hs hn.2 hS q.2.2.1 (ix n) 0 M (by omega) (agr_r M) hV.1
      rw [n_ix] at ln
      have aM : ∀ q : Nat → Nat → Bool, q 18 0 = false → (∀ j, q 19 j = false) → (∀ j, q 20 j = false) → (∀ j, q 21 j = false) → agr q M (stR (ix x) y (ix n) 0 M).2 := fun q h h1 h2 h3 => stR_a h h1 h2 h3 (ix n) 0 M
      have fC : agr (fr [18, 19, 20, 21]) M (stR (ix x) y (ix n) 0 M).2 := aM _ rfl (fun _ => rfl) (fun _ => rfl) (fun _ => rfl)
      refine ln (k _ _ (funext fun j => (fC 3 j rfl).1) (fun f2 k2 => go _ f2 (iK_i hs (brK_f ?_ (iK_i hs (brK_t ?_ (iK_i hs (brK_f ?_ ?_))))))))
      · rw [agr_nI fC rfl, e103]; decide
      · rw [agr_nI fC rfl, e103]
      · rw [agr_nI fC rfl, e103]; decide
      · have lr := l182 (d := d) (b := b) (f := f2) (x := y) (w := x) (n := ix n) (N0 := (stR (ix x) y (ix n) 0 M).2) (M0 := M) (by omega) hs hn.2 ((agr_nI fC rfl).trans q.2.2.2.1) q.2.2.1 (fun k hk => (agr_nL fC rfl).trans (q.2.2.2.2 k hk)) (ix n) 0 M (stR (ix x) y (ix n) 0 M).2 U U U (by omega) (fun e => absurd rfl e) (agr_r M) (agr_r _) ?_ (fun N' hN' hV' => ?_)
        · rw [n_ix] at lr
          exact lr
        · have := hV
          unfold VilR at this ⊢
          simp only [agr_nI (p := fr [18, 19, 20, 21]) fC (r := 67) (j := 2) rfl, fun j => agr_nI (p := fr [18, 19, 20, 21]) fC (r := 69) (j := j) rfl, fun j => agr_nI (p := fr [18, 19, 20, 21]) fC (r := 70) (j := j) rfl, fun j => agr_nI (p := fr [18, 19, 20, 21]) fC (r := 71) (j := j) rfl, fun j => agr_nI (p := fr [18, 19, 20, 21]) fC (r := 72) (j := j) rfl]
          exact this
        · refine k2 N' ?_ ((funext fun j => (hN' 3 j rfl).1).trans (funext fun j => (fC 3 j rfl).1))
          have A : ∀ q : Nat → Nat → Bool, q 18 0 = false → (∀ j, q 19 j = false) → (∀ j, q 20 j = false) → (∀ j, q 21 j = false) → (∀ j, q 69 j = false) → (∀ j, q 70 j = false) → (∀ j, q 71 j = false) → (∀ j, q 72 j = false) → q 67 2 = false → agr q M N' := fun q h h1 h2 h3 h4 h5 h6 h7 h8 => agr_t (aM q h h1 h2 h3) (frV_m h4 h5 h6 h7 h8 hN')
          refine ⟨StatW_a (A _ rfl (fun _ => rfl) (fun _ => rfl) (fun _ => rfl) (fun _ => rfl) (fun _ => rfl) (fun _ => rfl) (fun _ => rfl) rfl) hS, HimR_a (A _ rfl (fun _ => rfl) (fun _ => rfl) (fun _ => rfl) (fun _ => rfl) (fun _ => rfl) (fun _ => rfl) (fun _ => rfl) rfl) hH, VilR_S hV' (hN' 18 0 rfl).1 (fun j => (hN' 19 j rfl).1) (fun j => (hN' 20 j rfl).1) (fun j => (hN' 21 j rfl).1) (fun j => (hN' 22 j rfl).1), SchR_a (A _ rfl (fun _ => rfl) (fun _ => rfl) (fun _ => rfl) (fun _ => rfl) (fun _ => rfl) (fun _ => rfl) (fun _ => rfl) rfl) hSc, LedR_a (A _ rfl (fun _ => rfl) (fun _ => rfl) (fun _ => rfl) (fun _ => rfl) (fun _ => rfl) (fun _ => rfl) (fun _ => rfl) rfl) hL, ChgR_a (A _ rfl (fun _ => rfl) (fun _ => rfl) (fun _ => rfl) (fun _ => rfl) (fun _ => rfl) (fun _ => rfl) (fun _ => rfl) rfl) hC, ActR_a (A _ rfl (fun _ => rfl) (fun _ => rfl) (fun _ => rfl) (fun _ => rfl) (fun _ => rfl) (fun _ => rfl) (fun _ => rfl) rfl) hA, ShfR_a (A _ rfl (fun _ => rfl) (fun _ => rfl) (fun _ => rfl) (fun _ => rfl) (fun _ => rfl) (fun _ => rfl) (fun _ => rfl) rfl) hSh, TapR_a (A _ rfl (fun _ => rfl) (fun _ => rfl) (fun _ => rfl) (fun _ => rfl) (fun _ => rfl) (fun _ => rfl) (fun _ => rfl) rfl) hT, LawR_a (A _ (by cases b <;> rfl) (fun _ => by cases b <;> rfl) (fun _ => by cases b <;> rfl) (fun _ => by cases b <;> rfl) (fun _ => by cases b <;> rfl) (fun _ => by cases b <;> rfl) (fun _ => by cases b <;> rfl) (fun _ => by cases b <;> rfl) (by cases b <;> rfl)) hLw⟩
  · refine k _ M rfl (fun f2 k2 => v182_0 (c183 (by omega) ⟨rfl, brK_b (fun q => ff q h) (fun _ => c180 (by omega) ⟨rfl, ?_⟩)⟩))
    rw [rn, decide_eq_false h3, Bool.and_false]
    exact brK_t rfl (k2 M hI rfl)
end STALLS
