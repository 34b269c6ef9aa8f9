/-! read -/
def fyz : Nat → Nat → Bool := fun r j => nin [31, 32] r && !(Nat.beq r 26 && (Nat.beq j 9 || Nat.beq j 10))
def fyu : Nat → Nat → Bool := fun r j => nin [31, 32] r && !(Nat.beq r 26 && (Nat.beq j 8 || (Nat.beq j 9 || Nat.beq j 10)))
theorem fyz_u {N N' : M2} (h : agr fyz N N') : agr fyu N N' := by
  refine agr_m (fun r j q => ?_) h
  unfold fyu at q
  unfold fyz
  rw [Bool.and_eq_true] at q
  rw [q.1]
  cases hb : Nat.beq r 26 with
  | false => rfl
  | true =>
    rw [hb] at q
    cases h9 : (Nat.beq j 9 || Nat.beq j 10) with
    | false => rfl
    | true => rw [h9, Bool.or_true] at q; exact absurd q.2 (by decide)
theorem fyu_s {N N' : M2} (h : agr fyu N N') : agr frs N N' := by
  refine agr_m (fun r j q => ?_) h
  unfold frs at q
  unfold fyu
  rw [Bool.and_eq_true] at q
  rw [nin_c (l := [31, 32]) (q := fun r _ => nin [28, 29, 30, 31, 32] r) (fun a ha j => by
    rcases List.mem_cons.mp ha with e | e
    · rw [e]; rfl
    · rw [List.mem_singleton.mp e]; rfl) r 0 q.1]
  cases hb : Nat.beq r 26 with
  | false => rfl
  | true =>
    rw [hb] at q
    have q2 : Nat.beq j 0 = true := q.2
    have := Nat.eq_of_beq_eq_true q2
    subst this
    rfl
theorem CK_u {N N' : M2} {q : PS} (h : CK N q) (ha : agr fyu N N') : CK N' q :=
  ⟨(ha 26 2 rfl).1.trans h.1, fun p hp hq => ⟨fun t ht => (ha 28 _ rfl).1.trans ((h.2.1 p hp hq).1 t ht), (ha 29 p rfl).1.trans (h.2.1 p hp hq).2⟩, fun p hp => (ha 30 p rfl).1.trans (h.2.2 p hp)⟩
theorem fr31_z {N N' : M2} (h : agr (fr [31, 32]) N N') : agr fyz N N' := fr_m (q := fyz) (fun a ha j => by
  rcases List.mem_cons.mp ha with e | e
  · rw [e]; rfl
  · rw [List.mem_singleton.mp e]; rfl) h
def YL (N : M2) (q : PS) (Y L : Nat → Nat) : Prop := ∀ p, p < q.1 → gI N 31 p = nI (Y p) ∧ gI N 32 p = nI (L p)
section READ
variable {d : Nat} {b : Bool} {S : M2} {q : PS}
theorem at28 {N : M2} (hQ : psK q 60) (hK : CK N q) {p t : Nat} (hp : p < q.1) (ht : t < 16) : atV N 28 (nI p * 16 + nI t) = nI (psT' q p t) := by
  have h12 := hQ.1
  have e : ix (nI p * 16 + nI t) = p * 16 + t := by
    rw [show (16 : Int32) = nI 16 from rfl, nI_mul, nI_add, ix_n (by omega)]
  unfold atV
  rw [rg_t.mpr (by rw [e]; show p * 16 + t < 192; omega), e]
  exact (hK.2.1 p (by omega) (by omega)).1 t ht
theorem c143 {g : Mm → Prop} {t : Nat} {x y : Int32} {N : M2} (hd : 2 ≤ d) (hQ : psK q 60) (hK : CK N q) (ht : t < 16) (k : ∀ N', agr (fr [31, 32]) N N' → (∀ p, p < q.1 → gI N' 31 p = gI N 31 p + x * nI (psT' q p t) ∧ gI N' 32 p = gI N 32 p - y * nI (psT' q p t)) → g (FR b, N')) : WP d 107 143 0 [.ref 26, .int (nI t), .int x, .int y, U, U] [] 107 (FR b, N) (rV g) := by
  obtain ⟨d, rfl⟩ := ex1 (e := 1) hd
  have h12 := hQ.1
  have l : ∀ m p (N2 : M2) (u5 : Value), p + m = q.1 → agr (fr [31, 32]) N N2 → (∀ c, c < q.1 → gI N2 31 c = (bif decide (c < p) then gI N 31 c + x * nI (psT' q c t) else gI N 31 c) ∧ gI N2 32 c = (bif decide (c < p) then gI N 32 c - y * nI (psT' q c t) else gI N 32 c)) → WP (d + 1) 107 143 3 [.ref 26, .int (nI t), .int x, .int y, .int (nI p), u5] [] 107 (FR b, N2) (rV g) := by
    intro m
    induction m with
    | zero =>
      intro p N2 u5 hp hF hh
      have : p = q.1 := by omega
      subst this
      refine v143_3 (brK_t (by rw [agr_nI hF rfl, hK.1, nI_leI (by omega) (by omega)]; omega) (k N2 hF (fun c hc => ?_)))
      have := hh c hc
      rw [decide_eq_true hc] at this
      exact this
    | succ m ih =>
      intro p N2 u5 hp hF hh
      have hK2 : CK N2 q := CK_u hK (fyz_u (fr31_z hF))
      have e1 : ix (nI p) = p := ix_n (by omega)
      have e12 : ix (nI p) < 12 := by rw [e1]; omega
      refine v143_3 (brK_f (by rw [agr_nI hF rfl, hK.1, nI_leI (by omega) (by omega)]; omega) (brK_f (by rw [show (12 : Int32) = nI 12 from rfl, nI_leI (by decide) (by omega)]; omega) (c15 (by omega) (by decide) (Or.inl rfl) ⟨rfl, iK_i e12 (iK_i e12 (iK_i e12 (iK_i e12 ?_)))⟩)))
      rw [at28 hQ hK2 (by omega) ht, e1, nI_1]
      have hp1 := hh p (by omega)
      rw [decide_eq_false (show ¬ p < p by omega)] at hp1
      dsimp only
      rw [hp1.1, hp1.2]
      refine ih (p + 1) _ _ (by omega) (agr_sI rfl (agr_sI rfl hF)) (fun c hc => ?_)
      by_cases e : c = p
      · subst e
        rw [decide_eq_true (show c < c + 1 by omega)]
        refine ⟨?_, gI_s ..⟩
        rw [gI_or (by decide)]
        exact gI_s ..
      · have := hh c hc
        rw [gI_or (by decide), gI_oj e, gI_oj e, gI_or (by decide), this.1, this.2, show decide (c < p + 1) = decide (c < p) from decide_eq_decide.mpr (by omega)]
        exact ⟨rfl, rfl⟩
  refine v143_0 (l q.1 0 N _ (by omega) (agr_r N) (fun c hc => ?_))
  rw [decide_eq_false (show ¬ c < 0 by omega)]
  exact ⟨rfl, rfl⟩
theorem psT_60 (hQ : psK q 60) (p t : Nat) : psT' q p t ≤ 60 := hQ.2.1 _
theorem yN_le (hQ : psK q 60) (p s : Nat) : yN q p s ≤ 960 := by
  have := sumN_le (f := fun t => tb s t * psT' q p t) (g := fun _ => 60) 16 (fun t _ => by
    have h1 := tb_1 s t
    have h2 := psT_60 hQ p t
    have h01 : tb s t = 0 ∨ tb s t = 1 := by omega
    rcases h01 with h | h <;> rw [h] <;> omega)
  rw [sumN_k] at this
  exact this
theorem lfN_le (hQ : psK q 60) (p : Nat) {k : Nat} (hk : k ≤ 16) : lfN q p k ≤ 960 := by
  have := sumN_le (f := fun t => bif usV q t then psT' q p t else 0) (g := fun _ => 60) k (fun t _ => by
    have h2 := psT_60 hQ p t
    cases usV q t <;> simp <;> omega)
  rw [sumN_k] at this
  have h3 : k * 60 ≤ 16 * 60 := Nat.mul_le_mul_right 60 hk
  exact Nat.le_trans this h3
theorem c142 {f : Int32 → Mm → Prop} {k s : Nat} {N : M2} (hd : 1 ≤ d) (hQ : psK q 60) (hK : CK N q) (hk : k ≤ 16) (hY : YL N q (fun p => yN q p s) (fun p => lfN q p k)) (kk : f (bI (msV q k s)) (FR b, N)) : WP d 107 142 0 [.ref 26, U, U] [] 107 (FR b, N) (rI f) := by
  obtain ⟨d, rfl⟩ := ex1 hd
  have h12 := hQ.1
  have l : ∀ m p (u2 : Value), p + m = q.1 → (∀ c, c < p → msV1 q k s c = true) → WP (d + 1) 107 142 2 [.ref 26, .int (nI p), u2] [] 107 (FR b, N) (rI f) := by
    intro m
    induction m with
    | zero =>
      intro p u2 hp hh
      have : p = q.1 := by omega
      subst this
      have e : msV q k s = true := (allN_i _).mpr hh
      rw [e] at kk
      exact v142_2 (brK_t (by rw [hK.1, nI_leI (by omega) (by omega)]; omega) kk)
    | succ m ih =>
      intro p u2 hp hh
      have e1 : ix (nI p) = p := ix_n (by omega)
      have e12 : ix (nI p) < 12 := by rw [e1]; omega
      have yl := hY p (by omega)
      have hz := (hK.2.1 p (by omega) (by omega)).2
      have hz60 := hQ.2.2.1 p
      have y960 := yN_le hQ p s
      have l960 := lfN_le hQ p hk
      have yes : msV1 q k s p = true → ∀ u, WP (d + 1) 107 142 2 [.ref 26, .int (nI p + 1), u] [] 107 (FR b, N) (rI f) := by
        intro h u
        rw [nI_1]
        refine ih (p + 1) _ (by omega) (fun c hc => ?_)
        by_cases e : c = p
        · subst e; exact h
        · exact hh c (by omega)
      have no : msV1 q k s p = false → f 0 (FR b, N) := by
        intro h
        have e : msV q k s = false := allN_f.mpr ⟨p, by omega, h⟩
        rw [e] at kk
        exact kk
      unfold msV1 dY at yes no
      refine v142_2 (brK_f (by rw [hK.1, nI_leI (by omega) (by omega)]; omega) (brK_f (by rw [show (12 : Int32) = nI 12 from rfl, nI_leI (by decide) (by omega)]; omega) (iK_i e12 ?_)))
      rw [e1, hK.2.2 p (by omega), hz, yl.1, yl.2, nI_add]
      have e2 : (2 * nI (yN q p s + lfN q p k) : Int32) = nI (2 * (yN q p s + lfN q p k)) := nI_mul 2 _
      have e3 : (2 * nI (yN q p s) : Int32) = nI (2 * yN q p s) := nI_mul 2 _
      rw [e2, e3]
      refine brK_d (fun z => iK_i (by omega) (iK_i (by omega) (iK_i (by omega) ⟨fun z2 => brK_t rfl (yes ?_ _), fun z2 => brK_f (by decide) (no ?_)⟩))) (fun z => iK_i (by omega) (iK_i (by omega) ⟨fun z2 => brK_t rfl (yes ?_ _), fun z2 => brK_f (by decide) (no ?_)⟩))
      · rw [z]
        rw [nI_ltI (by omega) (by omega)] at z2
        exact blt_i.mpr z2
      · rw [z]
        rw [nI_ltI (by omega) (by omega)] at z2
        exact blt_f.mpr z2
      · rw [z]
        rw [nI_ltI (by omega) (by omega)] at z2
        exact blt_i.mpr z2
      · rw [z]
        rw [nI_ltI (by omega) (by omega)] at z2
        exact blt_f.mpr z2
  exact v142_0 (l q.1 0 _ (by omega) (fun c hc => absurd hc (by omega)))
theorem lt16p {k a : Nat} (hk : k < 16) (h : 2 ^ (k + 1) * a < 65536) : 2 ^ (k + 1) * a + 2 ^ (k + 1) ≤ 65536 := by
  have hp : 2 ^ (k + 1) ∣ 65536 := by
    have : (65536 : Nat) = 2 ^ 16 := by decide
    rw [this]
    exact Nat.pow_dvd_pow 2 hk
  obtain ⟨w, hw⟩ := hp
  rw [hw] at h ⊢
  have : a < w := Nat.lt_of_mul_lt_mul_left h
  have : 2 ^ (k + 1) * (a + 1) ≤ 2 ^ (k + 1) * w := Nat.mul_le_mul_left _ (by omega)
  rw [Nat.mul_add, Nat.mul_one] at this
  exact this
theorem lfN_s (q : PS) (p k : Nat) : lfN q p (k + 1) = lfN q p k + (bif usV q k then psT' q p k else 0) := rfl
theorem c141 (hQ : psK q 60) {u : Nat} (hu : u < 65536) (hus : ∀ t, t < 16 → u.testBit t = usV q t) : ∀ k, k ≤ 16 → ∀ (d a : Nat) (st : FS) (N : M2) (g : Mm → Prop), k + 5 ≤ d → 2 ^ k * a < 65536 → CK N q → YL N q (fun p => yN q p (2 ^ k * a)) (fun p => lfN q p k) → gI N 26 8 = nI u → gI N 26 9 = nI st.1 → gI N 26 10 = st.2 → st.1 ≤ 1000 → (∀ N', agr fyz N N' → YL N' q (fun p => yN q p (2 ^ k * a)) (fun p => lfN q p k) → gI N' 26 9 = nI (chP (gdV q) (usV q) (msV q) k (2 ^ k * a) st).1 → gI N' 26 10 = (chP (gdV q) (usV q) (msV q) k (2 ^ k * a) st).2 → (chP (gdV q) (usV q) (msV q) k (2 ^ k * a) st).1 ≤ 1000 → g (FR b, N')) → WP d 107 141 0 [.ref 26, .int (nI k - 1), .int (nI (2 ^ k * a)), U] [] 107 (FR b, N) (rV g) := by
  intro k
  induction k with
  | zero =>
    intro _ d a st N g hd h hK hY h8 h9 h10 h1000 kk
    obtain ⟨d, rfl⟩ := ex1 (e := 4) hd
    have hpl := pop_le (2 ^ 0 * a)
    unfold chP at kk
    refine v141_0 (c110 (by omega) h ⟨rfl, ?_⟩)
    dsimp only
    rw [h9]
    refine ⟨fun z => ?_, fun z => ?_⟩
    · rw [nI_leI (by omega) (by omega)] at z
      rw [Nat.ble_eq_true_of_le z] at kk
      exact kk N (agr_r N) hY h9 h10 h1000
    · rw [nI_leI (by omega) (by omega)] at z
      rw [show Nat.ble st.1 (pop (2 ^ 0 * a)) = false from by
        cases hb : Nat.ble st.1 (pop (2 ^ 0 * a)) with
        | false => rfl
        | true => exact absurd (Nat.le_of_ble_eq_true hb) z] at kk
      refine c142 (q := q) (by omega) hQ hK (by omega) hY ⟨rfl, brK_b (fun y => ?_) (fun y => brK_f (by decide) ?_)⟩
      · rw [y] at kk
        exact kk N (agr_r N) hY h9 h10 h1000
      · rw [y] at kk
        refine kk _ (agr_sI rfl (agr_sI rfl (agr_r N))) (fun p hp => ?_) ?_ (gI_s ..) (by show pop (2 ^ 0 * a) ≤ 1000; omega)
        · rw [gI_or (by decide), gI_or (by decide), gI_or (by decide), gI_or (by decide)]
          exact hY p hp
        · rw [gI_oj (by decide)]
          exact gI_s ..
  | succ k ih =>
    intro hk16 d a st N g hd h hK hY h8 h9 h10 h1000 kk
    obtain ⟨d, rfl⟩ := ex1 (e := k + 5) hd
    have hpl := pop_le (2 ^ (k + 1) * a)
    have hlt := lt16p (by omega : k < 16) h
    have hpk := pow_s k
    have hpos := Nat.two_pow_pos k
    have e1 : 2 ^ (k + 1) * a = 2 ^ k * (2 * a) := by rw [Nat.pow_succ, Nat.mul_assoc]
    have e2 : 2 ^ (k + 1) * a + 2 ^ k = 2 ^ k * (2 * a + 1) := by rw [e1, Nat.mul_add, Nat.mul_one]
    unfold chP at kk
    refine v141_0 (c110 (by omega) h ⟨rfl, ?_⟩)
    dsimp only
    rw [h9]
    refine ⟨fun z => ?_, fun z => ?_⟩
    · rw [nI_leI (by omega) (by omega)] at z
      rw [Nat.ble_eq_true_of_le z] at kk
      exact kk N (agr_r N) hY h9 h10 h1000
    · rw [nI_leI (by omega) (by omega)] at z
      rw [show Nat.ble st.1 (pop (2 ^ (k + 1) * a)) = false from by
        cases hb : Nat.ble st.1 (pop (2 ^ (k + 1) * a)) with
        | false => rfl
        | true => exact absurd (Nat.le_of_ble_eq_true hb) z] at kk
      refine c142 (q := q) (by omega) hQ hK hk16 hY ⟨rfl, brK_b (fun y => ?_) (fun y => brK_t ?_ ?_)⟩
      · rw [y] at kk
        exact kk N (agr_r N) hY h9 h10 h1000
      · rw [nI_pred]; exact nI_pos' (by omega)
      · rw [y] at kk
        rw [nI_pred, h8]
        have ub : bitV (nI u) (nI k) = nI (tb u k) := bitV_n (by omega) (by omega)
        have utb : tb u k = bif usV q k then 1 else 0 := by unfold tb; rw [hus k (by omega)]
        have ub2 : ((nI u >>> (nI k &&& 31)) &&& 1 : Int32) = nI (bif usV q k then 1 else 0) := by rw [← utb]; exact ub
        rw [ub2]
        have lf := lfN_s q
        cases hz : usV q k with
        | false =>
          rw [hz] at kk
          refine brK_t rfl ?_
          have hY1 : YL N q (fun p => yN q p (2 ^ k * (2 * a))) (fun p => lfN q p k) := fun p hp => by
            have := hY p hp
            rw [← e1]
            have e := lf p k
            rw [hz] at e
            have e : lfN q p (k + 1) = lfN q p k := e
            dsimp only
            rw [← e]
            exact this
          rw [e1]
          refine ih (by omega) d (2 * a) st N _ (by omega) (by omega) hK hY1 h8 h9 h10 h1000 (fun N' a1 a2 a3 a4 a5 => ⟨rfl, ?_⟩)
          rw [e1] at kk
          refine kk N' a1 (fun p hp => ?_) a3 a4 a5
          have := a2 p hp
          have e := lf p k
          rw [hz] at e
          have e : lfN q p (k + 1) = lfN q p k := e
          show gI N' 31 p = nI (yN q p (2 ^ k * (2 * a))) ∧ gI N' 32 p = nI (lfN q p (k + 1))
          rw [e]
          exact this
        | true =>
          rw [hz] at kk
          have lf : ∀ p, lfN q p (k + 1) = lfN q p k + psT' q p k := fun p => by have := lf p k; rw [hz] at this; exact this
          have yp : ∀ p, yN q p (2 ^ (k + 1) * a + 2 ^ k) = yN q p (2 ^ (k + 1) * a) + psT' q p k := fun p => by
            rw [yN_add (by omega), yN_pow (by omega)]
          refine brK_f (by decide) (c143 (q := q) (by omega) hQ hK (by omega) (fun N1 b1 b2 => ⟨rfl, ?_⟩))
          have hK1 := CK_u hK (fyz_u (fr31_z b1))
          have hY1 : YL N1 q (fun p => yN q p (2 ^ k * (2 * a))) (fun p => lfN q p k) := fun p hp => by
            have w := hY p hp
            have w2 := b2 p hp
            dsimp only at w w2 ⊢
            rw [w2.1, w2.2, w.1, w.2, lf p, ← e1, Int32.zero_mul, Int32.add_zero, Int32.one_mul, nI_sub (by omega)]
            exact ⟨rfl, by congr 1; omega⟩
          rw [e1]
          refine ih (by omega) d (2 * a) st N1 _ (by omega) (by omega) hK1 hY1 ((agr_nI b1 rfl).trans h8) ((agr_nI b1 rfl).trans h9) ((agr_nI b1 rfl).trans h10) h1000 (fun N2 a1 a2 a3 a4 a5 => ⟨rfl, ?_⟩)
          have hK2 := CK_u hK1 (fyz_u a1)
          refine c143 (q := q) (by omega) hQ hK2 (by omega) (fun N3 d1 d2 => ⟨rfl, ?_⟩)
          have hK3 := CK_u hK2 (fyz_u (fr31_z d1))
          rw [← e1] at a2 a3 a4 a5
          have hY3 : YL N3 q (fun p => yN q p (2 ^ k * (2 * a + 1))) (fun p => lfN q p k) := fun p hp => by
            have w := a2 p hp
            have w2 := d2 p hp
            dsimp only at w w2 ⊢
            rw [w2.1, w2.2, w.1, w.2, ← e2, yp p, Int32.one_mul, Int32.zero_mul, Int32.sub_zero, nI_add]
            exact ⟨rfl, rfl⟩
          have eor : nI (2 ^ k * (2 * a)) ||| ((1 : Int32) <<< (nI k &&& 31)) = nI (2 ^ k * (2 * a + 1)) := by
            rw [← e1, ← e2]
            exact or_bit (by omega) rfl h
          rw [eor]
          refine ih (by omega) d (2 * a + 1) _ N3 _ (by omega) (by rw [← e2]; omega) hK3 hY3 ((agr_nI d1 rfl).trans ((agr_nI a1 rfl).trans ((agr_nI b1 rfl).trans h8))) ((agr_nI d1 rfl).trans a3) ((agr_nI d1 rfl).trans a4) a5 (fun N4 f1 f2 f3 f4 f5 => ⟨rfl, ?_⟩)
          have hK4 := CK_u hK3 (fyz_u f1)
          refine c143 (q := q) (by omega) hQ hK4 (by omega) (fun N5 g1 g2 => ⟨rfl, ?_⟩)
          rw [← e2] at f2 f3 f4 f5
          refine kk N5 (agr_t (fr31_z b1) (agr_t a1 (agr_t (fr31_z d1) (agr_t f1 (fr31_z g1))))) (fun p hp => ?_) ((agr_nI g1 rfl).trans f3) ((agr_nI g1 rfl).trans f4) f5
          have w := f2 p hp
          have w2 := g2 p hp
          have en : ∀ x : Int32, (-1 : Int32) * x = -x := fun x => (Int32.neg_eq_neg_one_mul x).symm
          show gI N5 31 p = nI (yN q p (2 ^ (k + 1) * a)) ∧ gI N5 32 p = nI (lfN q p (k + 1))
          dsimp only at w w2
          rw [w2.1, w2.2, w.1, w.2, yp p, lf p, en, Int32.sub_neg, Int32.add_neg_eq_sub, nI_sub (by omega), nI_add]
          exact ⟨by congr 1; omega, rfl⟩
/-! fewestYes -/
def usP (q : PS) (p i t : Nat) : Prop := (∃ c, c < p ∧ dY q c = true ∧ 0 < psT' q c t) ∨ (t < i ∧ dY q p = true ∧ 0 < psT' q p t)
theorem usP_V (q : PS) (t : Nat) : usP q q.1 0 t ↔ usV q t = true := by
  unfold usV usP
  constructor
  · rintro (⟨c, h1, h2, h3⟩ | ⟨h, _⟩)
    · have : allN q.1 (fun p => !(dY q p && Nat.blt 0 (psT' q p t))) = false := allN_f.mpr ⟨c, h1, by rw [h2, blt_i.mpr h3]; rfl⟩
      rw [this]; rfl
    · exact absurd h (by omega)
  · intro h
    have h2 : allN q.1 (fun p => !(dY q p && Nat.blt 0 (psT' q p t))) = false := by
      cases hz : allN q.1 (fun p => !(dY q p && Nat.blt 0 (psT' q p t))) with
      | false => rfl
      | true => rw [hz] at h; exact absurd h (by decide)
    obtain ⟨c, h3, h4⟩ := allN_f.mp h2
    left
    have h5 : (dY q c && Nat.blt 0 (psT' q c t)) = true := by
      cases hz : (dY q c && Nat.blt 0 (psT' q c t)) with
      | true => rfl
      | false => rw [hz] at h4; exact absurd h4 (by decide)
    rw [Bool.and_eq_true] at h5
    exact ⟨c, h3, h5.1, blt_i.mp h5.2⟩
theorem c140 {f : Int32 → Mm → Prop} {N : M2} (hd : 25 ≤ d) (hQ : psK q 60) (hK : CK N q) (kk : ∀ N', agr fyu N N' → f (scn (gdV q) 65536 0 (99, -1)).2 (FR b, N')) : WP d 107 140 0 [.ref 26, U, U] [] 107 (FR b, N) (rI f) := by
  obtain ⟨d, rfl⟩ := ex1 (e := 24) hd
  have h12 := hQ.1
  -- the search
  have fin : ∀ (N2 : M2) (u : Nat) (u1 u2 : Value), agr fyu N N2 → u < 65536 → (∀ t, t < 16 → u.testBit t = usV q t) → gI N2 26 8 = nI u → (∀ p, p < q.1 → gI N2 31 p = 0 ∧ gI N2 32 p = nI (lfN q p 16)) → WP (d + 1) 107 140 164 [.ref 26, u1, u2] [] 107 (FR b, N2) (rI f) := by
    intro N2 u u1 u2 hF hu hus h8 hYL
    have hF2 : agr fyu N (sI (sI N2 26 9 99) 26 10 (-1)) := agr_sI rfl (agr_sI rfl hF)
    have hy0 : ∀ p, yN q p (2 ^ 16 * 0) = 0 := fun p => by
      rw [Nat.mul_zero]
      exact sumN_0 16 (fun t ht => by unfold tb; rw [Nat.zero_testBit]; exact Nat.zero_mul _)
    refine v140_164 ?_
    have := c141 (b := b) hQ hu hus 16 (Nat.le_refl _) d 0 (99, -1) (sI (sI N2 26 9 99) 26 10 (-1)) (fun N1 => N1.1 = FR b ∧ rI f (some (.int (gI N1.2 26 10))) (FR b, N1.2)) (by omega) (by decide) (CK_u hK hF2) (fun p hp => ?_) (by rw [gI_oj (by decide), gI_oj (by decide)]; exact h8) (by rw [gI_oj (by decide)]; exact gI_s ..) (gI_s ..) (by decide) (fun N3 a1 a2 a3 a4 a5 => ⟨rfl, ?_⟩)
    · rw [Nat.mul_zero] at this
      exact this
    · rw [gI_or (by decide), gI_or (by decide), gI_or (by decide), gI_or (by decide)]
      dsimp only
      rw [hy0]
      exact hYL p hp
    · rw [Nat.mul_zero, choose_ok hQ] at a4
      dsimp only
      rw [a4]
      exact kk N3 (agr_t hF2 (fyz_u a1))
  -- what is left
  have left : ∀ (u : Nat), u < 65536 → (∀ t, t < 16 → u.testBit t = usV q t) → ∀ m p (N2 : M2) (u2 : Value), p + m = q.1 → agr fyu N N2 → gI N2 26 8 = nI u → (∀ c, c < q.1 → gI N2 31 c = 0) → (∀ c, c < p → gI N2 32 c = nI (lfN q c 16)) → WP (d + 1) 107 140 92 [.ref 26, .int (nI p), u2] [] 107 (FR b, N2) (rI f) := by
    intro u hu hus m
    induction m with
    | zero =>
      intro p N2 u2 hp hF h8 h31 h32
      have : p = q.1 := by omega
      subst this
      exact v140_92 (brK_t (by rw [agr_nI hF rfl, hK.1, nI_leI (by omega) (by omega)]; omega) (fin N2 u _ _ hF hu hus h8 (fun c hc => ⟨h31 c hc, h32 c hc⟩)))
    | succ m ih =>
      intro p N2 u2 hp hF h8 h31 h32
      have e1 : ix (nI p) = p := ix_n (by omega)
      have e12 : ix (nI p) < 12 := by rw [e1]; omega
      refine v140_92 (brK_f (by rw [agr_nI hF rfl, hK.1, nI_leI (by omega) (by omega)]; omega) (brK_f (by rw [show (12 : Int32) = nI 12 from rfl, nI_leI (by decide) (by omega)]; omega) (iK_i e12 ?_)))
      have inner : ∀ n i (N3 : M2), i + n = 16 → agr (fr [32]) N2 N3 → (∀ c, c ≠ p → gI N3 32 c = gI N2 32 c) → gI N3 32 p = nI (lfN q p i) → WP (d + 1) 107 140 115 [.ref 26, .int (nI p), .int (nI i)] [] 107 (FR b, N3) (rI f) := by
        intro n
        induction n with
        | zero =>
          intro i N3 hi hF3 ho hpv
          have : i = 16 := by omega
          subst this
          refine v140_115 (brK_t (by decide) ?_)
          rw [nI_1]
          have hF4 : agr fyu N2 N3 := fr_m (q := fyu) (fun a ha j => by rw [List.mem_singleton.mp ha]; rfl) hF3
          refine ih (p + 1) N3 _ (by omega) (agr_t hF hF4) ((agr_nI hF3 rfl).trans h8) (fun c hc => (agr_nI hF3 rfl).trans (h31 c hc)) (fun c hc => ?_)
          by_cases e : c = p
          · subst e; exact hpv
          · rw [ho c e]; exact h32 c (by omega)
        | succ n ihn =>
          intro i N3 hi hF3 ho hpv
          have hF4 : agr fyu N2 N3 := fr_m (q := fyu) (fun a ha j => by rw [List.mem_singleton.mp ha]; rfl) hF3
          have hK3 : CK N3 q := CK_u hK (agr_t hF hF4)
          have h83 : gI N3 26 8 = nI u := (agr_nI hF3 rfl).trans h8
          refine v140_115 (brK_f (by rw [show (16 : Int32) = nI 16 from rfl, nI_leI (by decide) (by omega)]; omega) (iK_i e12 (c15 (by omega) (by decide) (Or.inl rfl) ⟨rfl, iK_i e12 ?_⟩)))
          have ub2 : ((nI u >>> (nI i &&& 31)) &&& 1 : Int32) = nI (tb u i) := bitV_n (by omega) (by omega)
          have utb : tb u i = bif usV q i then 1 else 0 := by unfold tb; rw [hus i (by omega)]
          rw [at28 hQ hK3 (by omega) (by omega), e1, hpv, h83, ub2, nI_mul, nI_add, nI_1, utb]
          refine ihn (i + 1) _ (by omega) (agr_sI rfl hF3) (fun c hc => by rw [gI_oj hc]; exact ho c hc) ?_
          rw [gI_s, lfN_s]
          cases usV q i with
          | true => rw [show (bif true then 1 else 0) * psT' q p i = psT' q p i from Nat.one_mul _]; rfl
          | false => rw [show (bif false then 1 else 0) * psT' q p i = 0 from Nat.zero_mul _]; rfl
      rw [e1]
      exact inner 16 0 _ (by omega) (agr_sI rfl (agr_r N2)) (fun c hc => gI_oj hc) (gI_s ..)
  -- the useful ones
  have useful : ∀ m p (N2 : M2) (u : Nat) (u2 : Value), p + m = q.1 → agr fyu N N2 → u < 65536 → (∀ t, t < 16 → (u.testBit t = true ↔ usP q p 0 t)) → gI N2 26 8 = nI u → (∀ c, c < p → gI N2 31 c = 0) → WP (d + 1) 107 140 7 [.ref 26, .int (nI p), u2] [] 107 (FR b, N2) (rI f) := by
    intro m
    induction m with
    | zero =>
      intro p N2 u u2 hp hF hu hus h8 h31
      have : p = q.1 := by omega
      subst this
      have hus2 : ∀ t, t < 16 → u.testBit t = usV q t := fun t ht => by
        have h1 := (hus t ht).trans (usP_V q t)
        cases hx : u.testBit t with
        | true => exact (h1.mp hx).symm
        | false =>
          cases hy : usV q t with
          | false => rfl
          | true => rw [h1.mpr hy] at hx; exact absurd hx (by decide)
      refine v140_7 (brK_t (by rw [agr_nI hF rfl, hK.1, nI_leI (by omega) (by omega)]; omega) ?_)
      exact left u hu hus2 q.1 0 N2 _ (by omega) hF h8 h31 (fun c hc => absurd hc (by omega))
    | succ m ih =>
      intro p N2 u u2 hp hF hu hus h8 h31
      have e1 : ix (nI p) = p := ix_n (by omega)
      have e12 : ix (nI p) < 12 := by rw [e1]; omega
      have nxt : ∀ (N3 : M2) (u' : Nat) (u2' : Value), agr fyu N N3 → u' < 65536 → (∀ t, t < 16 → (u'.testBit t = true ↔ usP q p 16 t)) → gI N3 26 8 = nI u' → (∀ c, c < p + 1 → gI N3 31 c = 0) → WP (d + 1) 107 140 7 [.ref 26, .int (nI p + 1), u2'] [] 107 (FR b, N3) (rI f) := by
        intro N3 u' u2' a1 a2 a3 a4 a5
        rw [nI_1]
        refine ih (p + 1) N3 u' _ (by omega) a1 a2 (fun t ht => (a3 t ht).trans ?_) a4 a5
        unfold usP
        constructor
        · rintro (⟨c, h1, h2⟩ | ⟨_, h2⟩)
          · exact Or.inl ⟨c, by omega, h2⟩
          · exact Or.inl ⟨p, by omega, h2⟩
        · rintro (⟨c, h1, h2⟩ | ⟨h, _⟩)
          · by_cases e : c = p
            · subst e; exact Or.inr ⟨ht, h2⟩
            · exact Or.inl ⟨c, by omega, h2⟩
          · exact absurd h (by omega)
      have inner : ∀ n i (N3 : M2) (u' : Nat), i + n = 16 → agr fyu N N3 → u' < 65536 → (∀ t, t < 16 → (u'.testBit t = true ↔ usP q p i t)) → gI N3 26 8 = nI u' → (∀ c, c < p + 1 → gI N3 31 c = 0) → WP (d + 1) 107 140 30 [.ref 26, .int (nI p), .int (nI i)] [] 107 (FR b, N3) (rI f) := by
        intro n
        induction n with
        | zero =>
          intro i N3 u' hi a1 a2 a3 a4 a5
          have : i = 16 := by omega
          subst this
          exact v140_30 (brK_t (by decide) (nxt N3 u' _ a1 a2 a3 a4 a5))
        | succ n ihn =>
          intro i N3 u' hi a1 a2 a3 a4 a5
          have hK3 : CK N3 q := CK_u hK a1
          refine v140_30 (brK_f (by rw [show (16 : Int32) = nI 16 from rfl, nI_leI (by decide) (by omega)]; omega) (iK_i e12 ?_))
          rw [e1, hK3.2.2 p (by omega)]
          refine brK_d (fun z => c15 (by omega) (by decide) (Or.inl rfl) ⟨rfl, ?_⟩) (fun z => nxt N3 u' _ a1 a2 (fun t ht => (a3 t ht).trans ?_) a4 a5)
          · have hT60 := psT_60 hQ p i
            rw [at28 hQ hK3 (by omega) (by omega), a4, nI_1]
            refine ⟨fun y => ?_, fun y => ?_⟩
            · rw [show (0 : Int32) = nI 0 from rfl, nI_leI (by omega) (by decide)] at y
              rw [Int32.or_zero]
              refine ihn (i + 1) _ u' (by omega) (agr_sI rfl a1) a2 (fun t ht => (a3 t ht).trans ?_) (gI_s ..) (fun c hc => by rw [gI_or (by decide)]; exact a5 c hc)
              unfold usP
              constructor
              · rintro (h | ⟨h1, h2⟩)
                · exact Or.inl h
                · exact Or.inr ⟨by omega, h2⟩
              · rintro (h | ⟨h1, h2, h3⟩)
                · exact Or.inl h
                · refine Or.inr ⟨?_, h2, h3⟩
                  by_cases e : t = i
                  · subst e; omega
                  · omega
            · rw [show (0 : Int32) = nI 0 from rfl, nI_leI (by omega) (by decide)] at y
              have hp2 : 2 ^ i < 65536 := by
                have : (65536 : Nat) = 2 ^ 16 := by decide
                rw [this]
                exact Nat.pow_lt_pow_right (by decide) (by omega)
              rw [sh_1 i (by omega), nI_or (by omega) (by omega)]
              refine ihn (i + 1) _ (u' ||| 2 ^ i) (by omega) (agr_sI rfl a1) (Nat.or_lt_two_pow (n := 16) a2 hp2) (fun t ht => ?_) (gI_s ..) (fun c hc => by rw [gI_or (by decide)]; exact a5 c hc)
              rw [Nat.testBit_or, Nat.testBit_two_pow, Bool.or_eq_true, a3 t ht, decide_eq_true_eq]
              unfold usP
              constructor
              · rintro ((h | ⟨h1, h2⟩) | h)
                · exact Or.inl h
                · exact Or.inr ⟨by omega, h2⟩
                · subst h
                  exact Or.inr ⟨by omega, z, by omega⟩
              · rintro (h | ⟨h1, h2, h3⟩)
                · exact Or.inl (Or.inl h)
                · by_cases e : i = t
                  · exact Or.inr e
                  · exact Or.inl (Or.inr ⟨by omega, h2, h3⟩)
          · unfold usP
            have hdf : dY q p = false := z
            rw [hdf]
            constructor
            · rintro (h | ⟨_, h, _⟩)
              · exact Or.inl h
              · exact absurd h (by decide)
            · rintro (h | ⟨_, h, _⟩)
              · exact Or.inl h
              · exact absurd h (by decide)
      refine v140_7 (brK_f (by rw [agr_nI hF rfl, hK.1, nI_leI (by omega) (by omega)]; omega) (brK_f (by rw [show (12 : Int32) = nI 12 from rfl, nI_leI (by decide) (by omega)]; omega) (iK_i e12 ?_)))
      rw [e1]
      refine inner 16 0 _ u (by omega) (agr_sI rfl hF) hu hus h8 (fun c hc => ?_)
      by_cases e : c = p
      · subst e; exact gI_s ..
      · rw [gI_oj e]; exact h31 c (by omega)
  refine v140_0 (useful q.1 0 _ 0 _ (by omega) (agr_sI rfl (agr_r N)) (by decide) (fun t ht => ?_) (gI_s ..) (fun c hc => absurd hc (by omega)))
  rw [Nat.zero_testBit]
  unfold usP
  constructor
  · intro h; exact absurd h (by decide)
  · rintro (⟨c, h, _⟩ | ⟨h, _⟩) <;> exact absurd h (by omega)
end READ
