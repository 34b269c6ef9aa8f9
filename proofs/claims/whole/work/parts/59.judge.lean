/-! VERDICTS ON A SHELF -/
/-- phrases that are whole, things counted by phrase, how long, what is due -/
abbrev PS : Type := Nat × (Nat → Nat) × (Nat → Nat) × (Nat → Int32)
def ps0 : PS := (0, fun _ => 0, fun _ => 0, fun _ => 0)
def psT (q : PS) (t : Nat) : PS := (q.1, fun j => bif Nat.beq j (q.1 * 16 + t) then q.2.1 j + 1 else q.2.1 j, fun p => bif Nat.beq p q.1 then q.2.2.1 p + 1 else q.2.2.1 p, q.2.2.2)
def psV (q : PS) (v : Int32) : PS := (q.1 + 1, q.2.1, q.2.2.1, fun p => bif Nat.beq p q.1 then v else q.2.2.2 p)
def psR (S : M2) (i : Nat) : Nat → Nat → PS → PS
  | 0, _, q => q
  | m + 1, k, q => bif Nat.ble 12 q.1 then q else bif isTh S i k then psR S i m (k + 1) (psT q (bsN S i k)) else bif decide (byV S i (nI k) = 16) || decide (byV S i (nI k) = 17) then psR S i m (k + 1) (psV q (bI (decide (byV S i (nI k) = 16)))) else q
def psF (S : M2) (i : Nat) : PS := psR S i (szS S i) 0 ps0
def psK (q : PS) (k : Nat) : Prop := q.1 ≤ 12 ∧ (∀ j, q.2.1 j ≤ k) ∧ (∀ p, q.2.2.1 p ≤ k) ∧ (∀ p, q.1 < p → (∀ t, t < 16 → q.2.1 (p * 16 + t) = 0) ∧ q.2.2.1 p = 0) ∧ ∀ p, q.2.2.2 p = 0 ∨ q.2.2.2 p = 1
def psT' (q : PS) (p : Nat) : Nat → Nat := fun t => q.2.1 (p * 16 + t)
theorem psK_0 : psK ps0 0 := ⟨by decide, fun _ => Nat.le_refl _, fun _ => Nat.le_refl _, fun _ _ => ⟨fun _ _ => rfl, rfl⟩, fun _ => Or.inl rfl⟩
theorem psK_m {q : PS} {k l : Nat} (h : psK q k) (hl : k ≤ l) : psK q l := ⟨h.1, fun j => Nat.le_trans (h.2.1 j) hl, fun j => Nat.le_trans (h.2.2.1 j) hl, h.2.2.2⟩
theorem psK_T {q : PS} {k t : Nat} (h : psK q k) (ht : t < 16) : psK (psT q t) (k + 1) := by
  refine ⟨h.1, fun j => ?_, fun p => ?_, fun p hp => ⟨fun t' ht' => ?_, ?_⟩, h.2.2.2.2⟩
  · have := h.2.1 j
    show (bif Nat.beq j (q.1 * 16 + t) then q.2.1 j + 1 else q.2.1 j) ≤ k + 1
    cases Nat.beq j (q.1 * 16 + t) <;> simp <;> omega
  · have := h.2.2.1 p
    show (bif Nat.beq p q.1 then q.2.2.1 p + 1 else q.2.2.1 p) ≤ k + 1
    cases Nat.beq p q.1 <;> simp <;> omega
  · have hp : q.1 < p := hp
    show (bif Nat.beq (p * 16 + t') (q.1 * 16 + t) then q.2.1 (p * 16 + t') + 1 else q.2.1 (p * 16 + t')) = 0
    have : Nat.beq (p * 16 + t') (q.1 * 16 + t) = false := by
      cases hb : Nat.beq (p * 16 + t') (q.1 * 16 + t) with
      | false => rfl
      | true => have := Nat.eq_of_beq_eq_true hb; omega
    rw [this]
    exact (h.2.2.2.1 p hp).1 t' ht'
  · have hp : q.1 < p := hp
    show (bif Nat.beq p q.1 then q.2.2.1 p + 1 else q.2.2.1 p) = 0
    have : Nat.beq p q.1 = false := by
      cases hb : Nat.beq p q.1 with
      | false => rfl
      | true => have := Nat.eq_of_beq_eq_true hb; omega
    rw [this]
    exact (h.2.2.2.1 p hp).2
theorem psK_V {q : PS} {k : Nat} {v : Int32} (h : psK q k) (h12 : q.1 < 12) (hv : v = 0 ∨ v = 1) : psK (psV q v) (k + 1) := by
  refine ⟨h12, fun j => Nat.le_succ_of_le (h.2.1 j), fun j => Nat.le_succ_of_le (h.2.2.1 j), fun p hp => h.2.2.2.1 p (Nat.lt_of_succ_lt hp), fun p => ?_⟩
  show (bif Nat.beq p q.1 then v else q.2.2.2 p) = 0 ∨ (bif Nat.beq p q.1 then v else q.2.2.2 p) = 1
  cases Nat.beq p q.1
  · exact h.2.2.2.2 p
  · exact hv
theorem bs_16 {S : M2} {i k : Nat} (h : isTh S i k = true) : bsN S i k < 16 := rg_tt h
theorem psK_R {S : M2} {i : Nat} : ∀ m k q, psK q k → psK (psR S i m k q) (k + m)
  | 0, _, _, h => h
  | m + 1, k, q, h => by
    unfold psR
    cases hb : Nat.ble 12 q.1 with
    | true => exact psK_m h (by omega)
    | false =>
      have h12 : q.1 < 12 := by
        by_cases z : 12 ≤ q.1
        · rw [Nat.ble_eq_true_of_le z] at hb; exact absurd hb (by decide)
        · omega
      cases ht : isTh S i k with
      | true =>
        have := psK_R m (k + 1) _ (psK_T h (bs_16 ht)) (S := S) (i := i)
        rw [show k + (m + 1) = k + 1 + m by omega]
        exact this
      | false =>
        cases hv : (decide (byV S i (nI k) = 16) || decide (byV S i (nI k) = 17)) with
        | true =>
          have := psK_R m (k + 1) _ (psK_V h h12 (bI_01 (decide (byV S i (nI k) = 16)))) (S := S) (i := i)
          rw [show k + (m + 1) = k + 1 + m by omega]
          exact this
        | false => exact psK_m h (by omega)
theorem psK_F {b : Bool} {S : M2} (hI : INV b S) {i : Nat} (hi : i < 6) (hr : isRowV S i 0 = true) : psK (psF S i) 60 := by
  have := psK_R (S := S) (i := i) (szS S i) 0 ps0 psK_0
  have hz : szS S i ≤ 60 := (row_of hI hi hr).2.2.1
  exact psK_m this (by omega)
def CK (N : M2) (q : PS) : Prop := gI N 26 2 = nI q.1 ∧ (∀ p, p < 12 → p ≤ q.1 → rowK N p (psT' q p) (q.2.2.1 p)) ∧ ∀ p, p < q.1 → gI N 30 p = q.2.2.2 p
section JUDGE
variable {d : Nat} {b : Bool} {S : M2}
theorem CK_T {N : M2} {q : PS} {t : Nat} (h : CK N q) (h12 : q.1 < 12) (ht : t < 16) : CK (sI (sI N 28 (q.1 * 16 + t) (gI N 28 (q.1 * 16 + t) + 1)) 29 q.1 (gI N 29 q.1 + 1)) (psT q t) := by
  refine ⟨h.1, fun p hp hpq => ⟨fun t' ht' => ?_, ?_⟩, h.2.2⟩
  · have hpq : p ≤ q.1 := hpq
    have k := (h.2.1 p hp hpq).1 t' ht'
    rw [gI_or (by decide)]
    show _ = nI (bif Nat.beq (p * 16 + t') (q.1 * 16 + t) then q.2.1 (p * 16 + t') + 1 else q.2.1 (p * 16 + t'))
    by_cases e : p * 16 + t' = q.1 * 16 + t
    · rw [← e, gI_s, Nat.beq_refl, k, nI_1]
      rfl
    · have : Nat.beq (p * 16 + t') (q.1 * 16 + t) = false := by
        cases hb : Nat.beq (p * 16 + t') (q.1 * 16 + t) with
        | false => rfl
        | true => exact absurd (Nat.eq_of_beq_eq_true hb) e
      rw [gI_oj e, this, k]
      rfl
  · have hpq : p ≤ q.1 := hpq
    have k := (h.2.1 p hp hpq).2
    show gI (sI (sI N 28 (q.1 * 16 + t) (gI N 28 (q.1 * 16 + t) + 1)) 29 q.1 (gI N 29 q.1 + 1)) 29 p = nI (bif Nat.beq p q.1 then q.2.2.1 p + 1 else q.2.2.1 p)
    by_cases e : p = q.1
    · rw [← e, gI_s, Nat.beq_refl, k, nI_1]
      rfl
    · have : Nat.beq p q.1 = false := by
        cases hb : Nat.beq p q.1 with
        | false => rfl
        | true => exact absurd (Nat.eq_of_beq_eq_true hb) e
      rw [gI_oj e, gI_or (by decide), this, k]
      rfl
theorem CK_V {N N' : M2} {q : PS} {k : Nat} {v : Int32} (h : CK N q) (hq : psK q k) (h12 : q.1 < 12) (ha : agr (fr [28, 29]) (sI (sI N 30 q.1 v) 26 2 (nI (q.1 + 1))) N') (h28 : ∀ j, j < (q.1 + 1) * 16 → gI N' 28 j = gI N 28 j) (h29 : ∀ p, p ≤ q.1 → gI N' 29 p = gI N 29 p) (hn : q.1 + 1 < 12 → (∀ t, t < 16 → gI N' 28 ((q.1 + 1) * 16 + t) = 0) ∧ gI N' 29 (q.1 + 1) = 0) : CK N' (psV q v) := by
  refine ⟨?_, fun p hp hpq => ?_, fun p hp => ?_⟩
  · rw [agr_nI ha rfl, gI_s]; rfl
  · have hpq : p ≤ q.1 + 1 := hpq
    by_cases e : p = q.1 + 1
    · subst e
      have := hn hp
      have z := hq.2.2.2.1 (q.1 + 1) (by omega)
      refine ⟨fun t ht => ?_, ?_⟩
      · rw [this.1 t ht]
        show (0 : Int32) = nI (q.2.1 ((q.1 + 1) * 16 + t))
        rw [z.1 t ht]; rfl
      · rw [this.2]
        show (0 : Int32) = nI (q.2.2.1 (q.1 + 1))
        rw [z.2]; rfl
    · have kk := h.2.1 p hp (by omega)
      refine ⟨fun t ht => ?_, ?_⟩
      · rw [h28 _ (by omega)]; exact kk.1 t ht
      · rw [h29 _ (by omega)]; exact kk.2
  · have hp : p < q.1 + 1 := hp
    rw [agr_nI ha rfl, gI_or (by decide)]
    show _ = (bif Nat.beq p q.1 then v else q.2.2.2 p)
    by_cases e : p = q.1
    · subst e
      rw [gI_s, Nat.beq_refl]; rfl
    · have : Nat.beq p q.1 = false := by
        cases hb : Nat.beq p q.1 with
        | false => rfl
        | true => exact absurd (Nat.eq_of_beq_eq_true hb) e
      rw [gI_oj e, this]
      exact h.2.2 p (by omega)
theorem c137 {g : Mm → Prop} {i : Nat} {N : M2} (hd : 4 ≤ d) (hI : INV b S) (hi : i < 6) (hr : isRowV S i 0 = true) (hA : agr (pC b) S N) (q : ∀ N', agr frs N N' → CK N' (psF S i) → g (FR b, N')) : WP d 107 137 0 [.ref 26, .ref (shC i), U, U] [] 107 (FR b, N) (rV g) := by
  obtain ⟨d, rfl⟩ := ex1 (e := 3) hd
  have hk := sh_kd i hi
  have hz : szS S i ≤ 60 := (row_of hI hi hr).2.2.1
  have l : ∀ m k (Q : PS) (N2 : M2) (u3 : Value), k + m = szS S i → psR S i m k Q = psF S i → psK Q k → agr frs N N2 → CK N2 Q → WP (d + 1) 107 137 12 [.ref 26, .ref (shC i), .int (nI k), u3] [] 107 (FR b, N2) (rV g) := by
    intro m
    induction m with
    | zero =>
      intro k Q N2 u3 hm hL hQ hF hK
      have hA2 : agr (pC b) S N2 := agr_t hA (frs_pC hF)
      have e3 : gI N2 (shC i) 3 = nI (szS S i) := by rw [agr_nI hA2 (shf_k b i hi 3).1]; exact (n_ix _).symm
      have : Q = psF S i := hL
      subst this
      exact v137_12 (oK_i hk.2.1 hk.1 (brK_t (by rw [e3, nI_leI (by omega) (by omega)]; omega) (q N2 hF hK)))
    | succ m ih =>
      intro k Q N2 u3 hm hL hQ hF hK
      have hA2 : agr (pC b) S N2 := agr_t hA (frs_pC hF)
      have e3 : gI N2 (shC i) 3 = nI (szS S i) := by rw [agr_nI hA2 (shf_k b i hi 3).1]; exact (n_ix _).symm
      have h60' : ix (gI N2 (shC i) 3) ≤ 60 := by rw [e3, ix_n (by omega)]; exact hz
      have hQ12 := hQ.1
      unfold psR at hL
      refine v137_12 (oK_i hk.2.1 hk.1 (brK_f (by rw [e3, nI_leI (by omega) (by omega)]; omega) ⟨fun z => ?_, fun z => oK_i hk.2.1 hk.1 (c70 (by omega) hi h60' ⟨rfl, c78 (by omega) ⟨rfl, ?_⟩⟩)⟩))
      · rw [hK.1, show (12 : Int32) = nI 12 from rfl, nI_leI (by decide) (by omega)] at z
        rw [Nat.ble_eq_true_of_le z] at hL
        have : Q = psF S i := hL
        subst this
        exact q N2 hF hK
      · rw [hK.1, show (12 : Int32) = nI 12 from rfl, nI_leI (by decide) (by omega)] at z
        have h12 : Q.1 < 12 := by omega
        rw [show Nat.ble 12 Q.1 = false from by
          cases hb : Nat.ble 12 Q.1 with
          | false => rfl
          | true => exact absurd (Nat.le_of_ble_eq_true hb) z] at hL
        have hL : (bif isTh S i k then psR S i m (k + 1) (psT Q (bsN S i k)) else bif decide (byV S i (nI k) = 16) || decide (byV S i (nI k) = 17) then psR S i m (k + 1) (psV Q (bI (decide (byV S i (nI k) = 16)))) else Q) = psF S i := hL
        rw [byV_a hA2 hi]
        have e26 : gI N2 26 2 = nI Q.1 := hK.1
        have vrd : ∀ v u, v = bI (decide (byV S i (nI k) = 16)) → isTh S i k = false → (decide (byV S i (nI k) = 16) || decide (byV S i (nI k) = 17)) = true → WP (d + 1) 107 137 85 [.ref 26, .ref (shC i), .int (nI k), u] [.int v, .int (nI Q.1), .ref 30] 107 (FR b, N2) (rV g) := by
          intro v u hv ht h1617
          rw [ht, h1617] at hL
          have hL : psR S i m (k + 1) (psV Q (bI (decide (byV S i (nI k) = 16)))) = psF S i := hL
          rw [← hv] at hL
          refine v137_85 (iK_i (by rw [ix_n (by omega)]; exact h12) ?_)
          rw [e26, ix_n (by omega), nI_1]
          have hF2 : agr frs N (sI (sI N2 30 Q.1 v) 26 2 (nI (Q.1 + 1))) := agr_sI rfl (agr_sI rfl hF)
          by_cases h13 : Q.1 + 1 < 12
          · refine c131 (by omega) h13 (fun N3 a1 a2 a3 a4 a5 => ⟨rfl, ?_⟩)
            rw [nI_1]
            refine ih (k + 1) _ N3 _ (by omega) hL (psK_V hQ h12 (by rw [hv]; exact bI_01 _)) (agr_t hF2 (frs_m (by decide) a1)) (CK_V hK hQ h12 a1 (fun j hj => ?_) (fun p hp => ?_) (fun _ => ⟨a3, a4⟩))
            · rw [a2 j (Or.inl hj)]; rfl
            · rw [a5 p (by omega)]; rfl
          · obtain ⟨d', rfl⟩ := ex1 (e := 0) (d := d) (by omega)
            refine v131_0 (brK_f (nI_pos (by omega)) (brK_f (by rw [show (12 : Int32) = nI 12 from rfl, nI_ltI (by omega) (by decide)]; exact h13) ⟨rfl, ?_⟩))
            rw [nI_1]
            exact ih (k + 1) _ _ _ (by omega) hL (psK_V hQ h12 (by rw [hv]; exact bI_01 _)) hF2 (CK_V hK hQ h12 (agr_r _) (fun j hj => rfl) (fun p hp => rfl) (fun e => absurd e h13))
        refine brK_b (fun z1 => ?_) (fun z1 => ?_)
        · have z1 : isTh S i k = false := z1
          dsimp only
          rw [e26]
          refine brK_d (fun y => brK_t (of_decide_eq_true y) ?_) (fun y => brK_d (fun y2 => brK_f (of_decide_eq_false y) ?_) (fun y2 => ?_))
          · exact vrd 1 _ (by rw [y]; rfl) z1 (by rw [y]; rfl)
          · exact vrd 0 _ (by rw [y]; rfl) z1 (by rw [y, y2]; rfl)
          · rw [z1, y, y2] at hL
            have : Q = psF S i := hL
            subst this
            exact q N2 hF hK
        · have z2 : isTh S i k = true := z1
          rw [z2] at hL
          have hL : psR S i m (k + 1) (psT Q (bsN S i k)) = psF S i := hL
          dsimp only
          rw [e26]
          refine c132 (by omega) h12 z1 ⟨rfl, ?_⟩
          rw [nI_1]
          exact ih (k + 1) _ _ _ (by omega) hL (psK_T hQ (bs_16 z2)) (agr_sI rfl (agr_sI rfl hF)) (CK_T hK h12 (bs_16 z2))
  have hA0 : agr frs N (sI N 26 2 0) := agr_sI rfl (agr_r N)
  refine v137_0 (c131 (p := 0) (by omega) (by decide) (fun N1 h1 h2 h3 h4 h5 => ⟨rfl, ?_⟩))
  refine l (szS S i) 0 ps0 N1 _ (by omega) rfl psK_0 (agr_t hA0 (frs_m (by decide) h1)) ⟨(agr_nI h1 rfl).trans (gI_s ..), fun p hp hp0 => ?_, fun p hp => absurd hp (by show ¬ p < 0; omega)⟩
  have : p = 0 := Nat.le_zero.mp hp0
  subst this
  exact ⟨fun t ht => h3 t ht, h4⟩
/-! the reference's -/
def frv : Nat → Nat → Bool := fun r j => nin [95, 96, 97] r && !(Nat.beq r 67 && Nat.beq j 52)
theorem frv_pC {N N' : M2} (h : agr frv N N') : agr (pC b) N N' := by
  refine agr_m (fun r j hq => ?_) h
  unfold frv
  have h1 : nin [95, 96, 97] r = true := nin_c (q := pC b) (fun a ha j => by
    simp only [List.mem_cons, List.not_mem_nil, or_false] at ha
    rcases ha with e | e | e <;> subst e <;> rfl) r j hq
  rw [h1]
  cases hb : (Nat.beq r 67 && Nat.beq j 52) with
  | false => rfl
  | true =>
    rw [Bool.and_eq_true] at hb
    have e1 := Nat.eq_of_beq_eq_true hb.1
    have e2 := Nat.eq_of_beq_eq_true hb.2
    subst e1 e2
    exact absurd hq (by show ¬ slot67 52 = true; decide)
def RK (N : M2) (q : PS) : Prop := gI N 67 52 = nI q.1 ∧ (∀ p, p ≤ q.1 → (∀ t, t < 16 → gI N 95 (p * 16 + t) = nI (q.2.1 (p * 16 + t))) ∧ gI N 96 p = nI (q.2.2.1 p)) ∧ ∀ p, p < q.1 → gI N 97 p = q.2.2.2 p
theorem e16p {p t : Nat} (hp : p < 20) (ht : t < 20) : ix (16 * nI p + nI t) = p * 16 + t := by
  rw [show (16 : Int32) = nI 16 from rfl, nI_mul, nI_add, ix_n (by omega), Nat.mul_comm]
theorem c268 {g : Mm → Prop} {p : Nat} {N : M2} (hd : 1 ≤ d) (hp : p < 13) (h52 : gI N 67 52 = nI p) (q : ∀ N', agr (fr [95, 96]) N N' → (∀ j, (j < p * 16 ∨ (p + 1) * 16 ≤ j) → gI N' 95 j = gI N 95 j) → (∀ t, t < 16 → gI N' 95 (p * 16 + t) = 0) → gI N' 96 p = 0 → (∀ c, c ≠ p → gI N' 96 c = gI N 96 c) → g (FR b, N')) : WP d 107 268 0 [.ref 67, U] [] 107 (FR b, N) (rV g) := by
  obtain ⟨d, rfl⟩ := ex1 hd
  have l : ∀ m t (N2 : M2), t + m = 16 → agr (fr [95]) N N2 → (∀ j, (j < p * 16 ∨ (p + 1) * 16 ≤ j) → gI N2 95 j = gI N 95 j) → (∀ t', t' < t → gI N2 95 (p * 16 + t') = 0) → WP (d + 1) 107 268 2 [.ref 67, .int (nI t)] [] 107 (FR b, N2) (rV g) := by
    intro m
    induction m with
    | zero =>
      intro t N2 ht h1 h2 h3
      have e52 : gI N2 67 52 = nI p := (agr_nI h1 rfl).trans h52
      refine v268_2 (brK_t (by rw [show (16 : Int32) = nI 16 from rfl, nI_leI (by decide) (by omega)]; omega) (iK_i (by rw [e52, ix_n (by omega)]; exact hp) ?_))
      rw [e52, ix_n (by omega)]
      refine q _ (agr_sI rfl (fr_s (by decide) h1)) (fun j hj => by rw [gI_or (by decide)]; exact h2 j hj) (fun t' ht' => by rw [gI_or (by decide)]; exact h3 t' (by omega)) (gI_s ..) (fun c hc => by rw [gI_oj hc]; exact agr_nI h1 rfl)
    | succ m ih =>
      intro t N2 ht h1 h2 h3
      have e52 : gI N2 67 52 = nI p := (agr_nI h1 rfl).trans h52
      refine v268_2 (brK_f (by rw [show (16 : Int32) = nI 16 from rfl, nI_leI (by decide) (by omega)]; omega) (iK_i (by rw [e52, e16p (by omega) (by omega)]; omega) ?_))
      rw [e52, e16p (by omega) (by omega), nI_1]
      refine ih (t + 1) _ (by omega) (agr_sI rfl h1) (fun j hj => ?_) (fun t' ht' => ?_)
      · rw [gI_oj (by omega)]; exact h2 j hj
      · by_cases e : t' = t
        · subst e; exact gI_s ..
        · rw [gI_oj (by omega)]; exact h3 t' (by omega)
  exact v268_0 (l 16 0 N (by omega) (agr_r N) (fun j hj => rfl) (fun t' ht' => absurd ht' (by omega)))
theorem RK_T {N : M2} {q : PS} {t : Nat} (h : RK N q) (ht : t < 16) : RK (sI (sI N 95 (q.1 * 16 + t) (gI N 95 (q.1 * 16 + t) + 1)) 96 q.1 (gI N 96 q.1 + 1)) (psT q t) := by
  refine ⟨h.1, fun p hpq => ⟨fun t' ht' => ?_, ?_⟩, h.2.2⟩
  · have hpq : p ≤ q.1 := hpq
    have k := (h.2.1 p hpq).1 t' ht'
    rw [gI_or (by decide)]
    show _ = nI (bif Nat.beq (p * 16 + t') (q.1 * 16 + t) then q.2.1 (p * 16 + t') + 1 else q.2.1 (p * 16 + t'))
    by_cases e : p * 16 + t' = q.1 * 16 + t
    · rw [← e, gI_s, Nat.beq_refl, k, nI_1]
      rfl
    · have : Nat.beq (p * 16 + t') (q.1 * 16 + t) = false := by
        cases hb : Nat.beq (p * 16 + t') (q.1 * 16 + t) with
        | false => rfl
        | true => exact absurd (Nat.eq_of_beq_eq_true hb) e
      rw [gI_oj e, this, k]
      rfl
  · have hpq : p ≤ q.1 := hpq
    have k := (h.2.1 p hpq).2
    show gI (sI (sI N 95 (q.1 * 16 + t) (gI N 95 (q.1 * 16 + t) + 1)) 96 q.1 (gI N 96 q.1 + 1)) 96 p = nI (bif Nat.beq p q.1 then q.2.2.1 p + 1 else q.2.2.1 p)
    by_cases e : p = q.1
    · rw [← e, gI_s, Nat.beq_refl, k, nI_1]
      rfl
    · have : Nat.beq p q.1 = false := by
        cases hb : Nat.beq p q.1 with
        | false => rfl
        | true => exact absurd (Nat.eq_of_beq_eq_true hb) e
      rw [gI_oj e, gI_or (by decide), this, k]
      rfl
theorem c267 {g : Mm → Prop} {x : Int32} {N : M2} (hd : 4 ≤ d) (hI : INV b S) (hx : ix x < 6) (hr : isRowV S (ix x) 0 = true) (hA : agr (pC b) S N) (q : ∀ N', agr frv N N' → RK N' (psF S (ix x)) → g (FR b, N')) : WP d 107 267 0 [.ref 67, .int x, U, U] [] 107 (FR b, N) (rV g) := by
  obtain ⟨d, rfl⟩ := ex1 (e := 3) hd
  obtain ⟨_, _, hz, h104, _⟩ := row_of hI hx hr
  have hz : szS S (ix x) ≤ 60 := hz
  have l : ∀ m k (Q : PS) (N2 : M2) (u3 : Value), k + m = szS S (ix x) → psR S (ix x) m k Q = psF S (ix x) → psK Q k → agr frv N N2 → RK N2 Q → WP (d + 1) 107 267 11 [.ref 67, .int x, .int (nI k), u3] [] 107 (FR b, N2) (rV g) := by
    intro m
    induction m with
    | zero =>
      intro k Q N2 u3 hm hL hQ hF hK
      have hA2 : agr (pC b) S N2 := agr_t hA (frv_pC hF)
      have e104 : gI N2 104 (ix x) = nI (szS S (ix x)) := by rw [agr_nI (p := pC b) hA2 rfl, h104]; exact (n_ix _).symm
      have : Q = psF S (ix x) := hL
      subst this
      exact v267_11 (iK_i hx (brK_t (by rw [e104, nI_leI (by omega) (by omega)]; omega) (q N2 hF hK)))
    | succ m ih =>
      intro k Q N2 u3 hm hL hQ hF hK
      have hA2 : agr (pC b) S N2 := agr_t hA (frv_pC hF)
      have e104 : gI N2 104 (ix x) = nI (szS S (ix x)) := by rw [agr_nI (p := pC b) hA2 rfl, h104]; exact (n_ix _).symm
      have hQ12 := hQ.1
      have hg : rg (nI k) (ix (gI S (shC (ix x)) 3)) = true := rg_t.mpr (by rw [ix_n (by omega)]; show k < szS S (ix x); omega)
      unfold psR at hL
      refine v267_11 (iK_i hx (brK_f (by rw [e104, nI_leI (by omega) (by omega)]; omega) ⟨fun z => ?_, fun z => c224 (S := S) (by omega) hI hA2 hx hr hg ⟨rfl, c180n 17 (by omega) rfl (by decide) ⟨rfl, ?_⟩⟩⟩))
      · rw [hK.1, show (12 : Int32) = nI 12 from rfl, nI_leI (by decide) (by omega)] at z
        rw [Nat.ble_eq_true_of_le z] at hL
        have : Q = psF S (ix x) := hL
        subst this
        exact q N2 hF hK
      · rw [hK.1, show (12 : Int32) = nI 12 from rfl, nI_leI (by decide) (by omega)] at z
        have h12 : Q.1 < 12 := by omega
        rw [show Nat.ble 12 Q.1 = false from by
          cases hb : Nat.ble 12 Q.1 with
          | false => rfl
          | true => exact absurd (Nat.le_of_ble_eq_true hb) z] at hL
        have hL : (bif isTh S (ix x) k then psR S (ix x) m (k + 1) (psT Q (bsN S (ix x) k)) else bif decide (byV S (ix x) (nI k) = 16) || decide (byV S (ix x) (nI k) = 17) then psR S (ix x) m (k + 1) (psV Q (bI (decide (byV S (ix x) (nI k) = 16)))) else Q) = psF S (ix x) := hL
        have e52 : gI N2 67 52 = nI Q.1 := hK.1
        have hth : isTh S (ix x) k = rg (byV S (ix x) (nI k)) 16 := rfl
        have hbs : bsN S (ix x) k = ix (byV S (ix x) (nI k)) := rfl
        rw [hth, hbs] at hL
        generalize byV S (ix x) (nI k) = v at hL ⊢
        have i16 : (16 : Int32) = v → ix v = 16 := fun e => by rw [← e]; rfl
        have v16 : v = 16 ↔ ix v = 16 := ix_eq (x := v) (n := 16) (by decide)
        have v17 : v = 17 ↔ ix v = 17 := ix_eq (x := v) (n := 17) (by decide)
        have vrd : ∀ w, w = bI (decide (v = 16)) → rg v 16 = false → (decide (v = 16) || decide (v = 17)) = true → WP (d + 1) 107 267 107 [.ref 67, .int x, .int (nI k), .int v] [.int w, .int (nI Q.1), .ref 97] 107 (FR b, N2) (rV g) := by
          intro w hv ht h1617
          rw [ht, h1617] at hL
          have hL : psR S (ix x) m (k + 1) (psV Q (bI (decide (v = 16)))) = psF S (ix x) := hL
          rw [← hv] at hL
          refine v267_107 (iK_i (by rw [ix_n (by omega)]; omega) ?_)
          rw [e52, ix_n (by omega), nI_1]
          have hF2 : agr frv N (sI (sI N2 97 Q.1 w) 67 52 (nI (Q.1 + 1))) := agr_sI rfl (agr_sI rfl hF)
          refine c268 (p := Q.1 + 1) (by omega) (by omega) (gI_s ..) (fun N3 a1 a2 a3 a4 a5 => ⟨rfl, ?_⟩)
          rw [nI_1]
          have a1' : agr frv (sI (sI N2 97 Q.1 w) 67 52 (nI (Q.1 + 1))) N3 := fr_m (q := frv) (fun a ha j => by
            rcases List.mem_cons.mp ha with e | e
            · rw [e]; rfl
            · rw [List.mem_singleton.mp e]; rfl) a1
          refine ih (k + 1) _ N3 _ (by omega) hL (psK_V hQ h12 (by rw [hv]; exact bI_01 _)) (agr_t hF2 a1') ⟨(agr_nI a1 rfl).trans (gI_s ..), fun p hpq => ?_, fun p hp => ?_⟩
          · have hpq : p ≤ Q.1 + 1 := hpq
            by_cases e : p = Q.1 + 1
            · subst e
              have zz := hQ.2.2.2.1 (Q.1 + 1) (by omega)
              refine ⟨fun t ht => ?_, ?_⟩
              · rw [a3 t ht]
                show (0 : Int32) = nI (Q.2.1 ((Q.1 + 1) * 16 + t))
                rw [zz.1 t ht]; rfl
              · rw [a4]
                show (0 : Int32) = nI (Q.2.2.1 (Q.1 + 1))
                rw [zz.2]; rfl
            · have kk := hK.2.1 p (by omega)
              refine ⟨fun t ht => ?_, ?_⟩
              · rw [a2 _ (by omega)]; exact kk.1 t ht
              · rw [a5 _ (by omega)]; exact kk.2
          · have hp : p < Q.1 + 1 := hp
            rw [agr_nI a1 rfl, gI_or (by decide)]
            show _ = (bif Nat.beq p Q.1 then w else Q.2.2.2 p)
            by_cases e : p = Q.1
            · subst e
              rw [gI_s, Nat.beq_refl]; rfl
            · have : Nat.beq p Q.1 = false := by
                cases hb : Nat.beq p Q.1 with
                | false => rfl
                | true => exact absurd (Nat.eq_of_beq_eq_true hb) e
              rw [gI_oj e, this]
              exact hK.2.2 p (by omega)
        refine brK_b (fun z1 => ?_) (fun z1 => ⟨fun y => ?_, fun y => ?_⟩)
        · have n18 := rg_f.mp z1
          rw [show rg v 16 = false from rg_f.mpr (by omega), decide_eq_false (show ¬ v = 16 from fun e => by have := v16.mp e; omega), decide_eq_false (show ¬ v = 17 from fun e => by have := v17.mp e; omega)] at hL
          have : Q = psF S (ix x) := hL
          subst this
          exact q N2 hF hK
        · have n18 := rg_tt z1
          rw [ix_leI (by decide) (by omega), show ix 16 = 16 from rfl] at y
          have h16 : rg v 16 = false := rg_f.mpr (by omega)
          dsimp only
          rw [e52]
          refine brK_d (fun y2 => ?_) (fun y2 => ?_)
          · exact vrd 1 (by rw [y2]; rfl) h16 (by rw [y2]; rfl)
          · have h17 : v = 17 := v17.mpr (by have := mt v16.mpr (of_decide_eq_false y2); omega)
            exact vrd 0 (by rw [y2]; rfl) h16 (by rw [y2, decide_eq_true h17]; rfl)
        · have n18 := rg_tt z1
          rw [ix_leI (by decide) (by omega), show ix 16 = 16 from rfl] at y
          have h16 : rg v 16 = true := rg_t.mpr (by omega)
          rw [h16] at hL
          have hL : psR S (ix x) m (k + 1) (psT Q (ix v)) = psF S (ix x) := hL
          have e16 : ix (16 * nI Q.1 + v) = Q.1 * 16 + ix v := by rw [← n_ix v, e16p (by omega) (by omega), n_ix]
          dsimp only
          rw [e52, e16, ix_n (by omega), nI_1]
          refine iK_i (by rw [e16]; omega) (iK_i (by rw [e16]; omega) (iK_i (by rw [ix_n (by omega)]; omega) (iK_i (by rw [ix_n (by omega)]; omega) ?_)))
          exact ih (k + 1) _ _ _ (by omega) hL (psK_T hQ (by omega)) (agr_sI rfl (agr_sI rfl hF)) (RK_T hK (by omega))
  have hA0 : agr frv N (sI N 67 52 0) := agr_sI rfl (agr_r N)
  refine v267_0 (c268 (p := 0) (by omega) (by decide) (gI_s ..) (fun N1 h1 h2 h3 h4 h5 => ⟨rfl, ?_⟩))
  have h1' : agr frv (sI N 67 52 0) N1 := fr_m (q := frv) (fun a ha j => by
    rcases List.mem_cons.mp ha with e | e
    · rw [e]; rfl
    · rw [List.mem_singleton.mp e]; rfl) h1
  refine l (szS S (ix x)) 0 ps0 N1 _ (by omega) rfl psK_0 (agr_t hA0 h1') ⟨(agr_nI h1 rfl).trans (gI_s ..), fun p hp0 => ?_, fun p hp => absurd hp (by show ¬ p < 0; omega)⟩
  have : p = 0 := Nat.le_zero.mp hp0
  subst this
  exact ⟨fun t ht => h3 t ht, h4⟩
/-- is it so of a phrase -/
def soV (q : PS) (set : Int32) (p : Nat) : Bool := decide (vdV (ysN set (psT' q p)) (q.2.2.1 p) = q.2.2.2 p)
theorem c269 {f : Int32 → Mm → Prop} {set : Int32} {p : Nat} {q : PS} {N : M2} (hd : 2 ≤ d) (hK : RK N q) (hQ : psK q 60) (hp : p < q.1) (k : f (bI (soV q set p)) (FR b, N)) : WP d 107 269 0 [.ref 67, .int set, .int (nI p), U, U] [] 107 (FR b, N) (rI f) := by
  obtain ⟨d, rfl⟩ := ex1 (e := 1) hd
  have h12 := hQ.1
  have hy := @ysN_le set (psT' q p) 60 (fun t ht => hQ.2.1 _)
  have hz := hQ.2.2.1 p
  have l : ∀ m t, t + m = 16 → WP (d + 1) 107 269 5 [.ref 67, .int set, .int (nI p), .int (nI (sumN (fun t => btN set t * psT' q p t) t)), .int (nI t)] [] 107 (FR b, N) (rI f) := by
    intro m
    induction m with
    | zero =>
      intro t ht
      have : t = 16 := by omega
      subst this
      have p13 : ix (nI p) < 13 := by rw [ix_n (by omega)]; omega
      refine v269_5 (brK_t (by decide) (iK_i p13 ?_))
      rw [ix_n (by omega), (hK.2.1 p (by omega)).2]
      refine c264 (y := ysN set (psT' q p)) (by omega) (by omega) (by omega) ⟨rfl, iK_i p13 ?_⟩
      dsimp only
      rw [hK.2.2 p hp]
      unfold soV at k
      refine brK_d (fun z => ?_) (fun z => ?_)
      · rw [z] at k; exact k
      · rw [z] at k; exact k
    | succ m ih =>
      intro t ht
      have nx := ih (t + 1) (by omega)
      have es : sumN (fun t => btN set t * psT' q p t) (t + 1) = sumN (fun t => btN set t * psT' q p t) t + btN set t * psT' q p t := rfl
      have e16 : ix (16 * nI p + nI t) = p * 16 + t := e16p (by omega) (by omega)
      have eb : (((set >>> (nI t &&& 31)) &&& 1) : Int32) = nI (btN set t) := btN_e set t
      rw [es] at nx
      refine v269_5 (brK_f (by rw [show (16 : Int32) = nI 16 from rfl, nI_leI (by decide) (by omega)]; omega) ?_)
      rw [eb, e16, (hK.2.1 p (by omega)).1 t (by omega), nI_add, nI_1]
      rcases btN_1 set t with e | e <;> rw [e] at nx ⊢
      · rw [Nat.zero_mul, Nat.add_zero] at nx
        exact brK_f (by decide) nx
      · rw [Nat.one_mul] at nx
        exact brK_t rfl (iK_i (by rw [e16]; omega) nx)
  exact v269_0 (l 16 0 (by omega))
/-! judge -/
def jdW (q : PS) (set : Int32) : Nat → Nat → Int32
  | 0, _ => -2
  | m + 1, p => bif soV q set p then jdW q set m (p + 1) else nI p
def judV (S : M2) (x y : Int32) : Int32 := bif rg x 6 && rg y (scS S) then (bif isRowV S (ix x) 0 then jdW (psF S (ix x)) (gI S 27 (ix y)) (psF S (ix x)).1 0 else refV S (ix x)) else -1
theorem P_judge (hI : INV b S) {x y : Int32} : PAIR b S 136 266 [.ref 4, .int x, .int y, U] [.ref 67, .int x, .int y, U, U] := by
  have hc5 : scS S ≤ 5 := hI.2.2.2.1.1
  have hnn : 0 ≤ (gI S 26 0).toInt := by have := ix_t (gI S 26 0); unfold scS at hc5; omega
  refine PAIR_ro hI (judV S x y) (fun d hd f k => ?_) (fun N hA d hd f k => ?_)
  · unfold judV at k
    refine v136_0 (c18 (by omega) (fun h => ⟨rfl, ?_⟩) (fun h => ⟨rfl, c26 (by omega) hnn ⟨rfl, brK_b (fun h2 => ?_) (fun h2 => ?_)⟩⟩))
    · rw [h] at k; exact k S (agr_r S)
    · have h2 : rg y (scS S) = false := h2
      rw [h, h2] at k; exact k S (agr_r S)
    · have h2 : rg y (scS S) = true := h2
      rw [h, h2] at k
      have hi := rg_tt h
      have hy := rg_tt h2
      have hk := sh_kd _ hi
      obtain ⟨d', hd'⟩ := ex1 (e := 0) (d := d) (by omega)
      refine oK_i hk.2.1 hk.1 (c19 (by omega) hi ⟨rfl, brK_b (fun h5 => oK_i hk.2.1 hk.1 (c66 (by omega) hi ⟨rfl, ?_⟩)) (fun h5 => c137 (S := S) (by omega) hI hi h5 (agr_r S) (fun N' hN' hK => ⟨rfl, c15 (by omega) (by decide) (Or.inl rfl) ⟨rfl, ?_⟩⟩))⟩)
      · rw [h5] at k; exact k S (agr_r S)
      · rw [h5] at k
        have hA : agr (pC b) S N' := frs_pC hN'
        rw [sch_27 hA (by omega)]
        have hQ := psK_F hI hi h5
        have k2 : f (jdW (psF S (ix x)) (gI S 27 (ix y)) (psF S (ix x)).1 0) (FR b, N') := k N' hA
        generalize psF S (ix x) = q at hK hQ k2
        have h12 := hQ.1
        subst hd'
        have l : ∀ m p, p + m = q.1 → f (jdW q (gI S 27 (ix y)) m p) (FR b, N') → WP (d' + 1) 107 138 2 [.ref 26, .int (gI S 27 (ix y)), .int (nI p)] [] 107 (FR b, N') (rI fun v11 N10 => N10.1 = FR b ∧ f v11 (FR b, N10.2)) := by
          intro m
          induction m with
          | zero =>
            intro p hp q2
            exact v138_2 (brK_t (by rw [hK.1, nI_leI (by omega) (by omega)]; omega) ⟨rfl, q2⟩)
          | succ m ih =>
            intro p hp q2
            have ep : atV N' 30 (nI p) = q.2.2.2 p := by
              unfold atV
              rw [rg_t.mpr (by rw [ix_n (by omega)]; show p < 12; omega), ix_n (by omega)]
              exact hK.2.2 p (by omega)
            refine v138_2 (brK_f (by rw [hK.1, nI_leI (by omega) (by omega)]; omega) (c133 (p := p) (c := 60) (by omega) (by omega) (hK.2.1 p (by omega) (by omega)) (fun t ht => hQ.2.1 _) (hQ.2.2.1 p) (by decide) ⟨rfl, c15 (by omega) (by decide) (Or.inl rfl) ⟨rfl, ?_⟩⟩))
            rw [ep, nI_1]
            have q2 : f (bif decide (vdV (ysN (gI S 27 (ix y)) (psT' q p)) (q.2.2.1 p) = q.2.2.2 p) then jdW q (gI S 27 (ix y)) m (p + 1) else nI p) (FR b, N') := q2
            refine brK_d (fun z => ?_) (fun z => ?_)
            · rw [z] at q2; exact ih (p + 1) (by omega) q2
            · rw [z] at q2; exact ⟨rfl, q2⟩
        exact v138_0 (l q.1 0 (by omega) k2)
  · unfold judV at k
    have e67 : gI N 67 7 = gI S 26 0 := (agr_nI hA rfl).trans hI.2.2.2.1.2.1
    refine v266_0 (c183 (by omega) ⟨rfl, brK_b (fun h => ?_) (fun h => c191 (by omega) (by rw [e67]; exact hnn) ⟨rfl, ?_⟩)⟩)
    · rw [h] at k; exact k N hA
    · rw [e67]
      refine brK_b (fun h2 => ?_) (fun h2 => ?_)
      · have h2 : rg y (scS S) = false := h2
        rw [h, h2] at k; exact k N hA
      · have h2 : rg y (scS S) = true := h2
        rw [h, h2] at k
        have hi := rg_tt h
        have hy := rg_tt h2
        refine c221 (S := S) (by omega) hI hA hi (by decide) ⟨rfl, ?_⟩
        cases h5 : isRowV S (ix x) 0 with
        | false => rw [h5] at k; exact brK_f (rfV_neg S _) (k N hA)
        | true =>
          rw [h5] at k
          refine brK_t (show (0 : Int32) ≤ 0 by decide) (c267 (S := S) (by omega) hI hi h5 hA (fun N' hN' hK => ⟨rfl, ?_⟩))
          have hA2 : agr (pC b) S N' := agr_t hA (frv_pC hN')
          have hQ := psK_F hI hi h5
          have k2 : f (jdW (psF S (ix x)) (gI S 27 (ix y)) (psF S (ix x)).1 0) (FR b, N') := k N' hA2
          have e73 : gI N' 73 (ix y) = gI S 27 (ix y) := (agr_nI hA2 rfl).trans (hI.2.2.2.1.2.2 (ix y) (by omega)).2
          generalize psF S (ix x) = q at hK hQ k2
          have h12 := hQ.1
          have l : ∀ m p (u3 : Value), p + m = q.1 → f (jdW q (gI S 27 (ix y)) m p) (FR b, N') → WP (d + 1) 107 266 38 [.ref 67, .int x, .int y, u3, .int (nI p)] [] 107 (FR b, N') (rI f) := by
            intro m
            induction m with
            | zero =>
              intro p u3 hp q2
              exact v266_38 (brK_t (by rw [hK.1, nI_leI (by omega) (by omega)]; omega) q2)
            | succ m ih =>
              intro p u3 hp q2
              unfold jdW at q2
              refine v266_38 (brK_f (by rw [hK.1, nI_leI (by omega) (by omega)]; omega) (iK_i (by omega) ?_))
              rw [e73]
              refine c269 (q := q) (by omega) hK hQ (by omega) ⟨rfl, ?_⟩
              rw [nI_1]
              refine brK_b (fun z => ?_) (fun z => ?_)
              · rw [z] at q2; exact q2
              · rw [z] at q2; exact ih (p + 1) _ (by omega) q2
          exact l q.1 0 _ (by omega) k2
end JUDGE
