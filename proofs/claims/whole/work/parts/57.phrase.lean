/-! PHRASES -/
def sumN (g : Nat → Nat) : Nat → Nat
  | 0 => 0
  | n + 1 => sumN g n + g n
theorem sumN_c {f g : Nat → Nat} (n : Nat) (h : ∀ j, j < n → f j = g j) : sumN f n = sumN g n := by
  induction n with
  | zero => rfl
  | succ n ih =>
    show sumN f n + f n = sumN g n + g n
    rw [ih (fun j hj => h j (by omega)), h n (by omega)]
theorem sumN_le {f g : Nat → Nat} (n : Nat) (h : ∀ j, j < n → f j ≤ g j) : sumN f n ≤ sumN g n := by
  induction n with
  | zero => exact Nat.le_refl _
  | succ n ih =>
    have := ih (fun j hj => h j (by omega))
    have := h n (by omega)
    show sumN f n + f n ≤ sumN g n + g n
    omega
theorem sumN_k (c : Nat) : ∀ n, sumN (fun _ => c) n = n * c
  | 0 => (Nat.zero_mul c).symm
  | n + 1 => by
    show sumN (fun _ => c) n + c = _
    rw [sumN_k c n, Nat.succ_mul]
theorem sumN_add (f g : Nat → Nat) : ∀ n, sumN (fun t => f t + g t) n = sumN f n + sumN g n
  | 0 => rfl
  | n + 1 => by
    have := sumN_add f g n
    show sumN (fun t => f t + g t) n + (f n + g n) = (sumN f n + f n) + (sumN g n + g n)
    omega
theorem sumN_0 {f : Nat → Nat} (n : Nat) (h : ∀ j, j < n → f j = 0) : sumN f n = 0 := by
  rw [sumN_c n h, sumN_k]
  exact Nat.mul_zero n
theorem sumN_one {f : Nat → Nat} {c : Nat} : ∀ n, c < n → (∀ j, j < n → j ≠ c → f j = 0) → sumN f n = f c
  | 0, h, _ => absurd h (by omega)
  | n + 1, h, k => by
    show sumN f n + f n = f c
    by_cases e : n = c
    · subst e
      rw [sumN_0 n (fun j hj => k j (by omega) (by omega))]
      omega
    · rw [sumN_one n (by omega) (fun j hj hne => k j (by omega) hne), k n (by omega) e]
      rfl
def btN (set : Int32) (t : Nat) : Nat := ix (bitV set (nI t))
theorem btN_e (set : Int32) (t : Nat) : bitV set (nI t) = nI (btN set t) := (n_ix _).symm
theorem btN_1 (set : Int32) (t : Nat) : btN set t = 0 ∨ btN set t = 1 := by
  unfold btN
  rcases bitV_01 set (nI t) with h | h <;> rw [h]
  · exact Or.inl rfl
  · exact Or.inr rfl
def vdV (y a : Nat) : Int32 := bif decide (a < 2 * y) then 1 else bif decide (2 * y < a) then 0 else -2
/-- the yes things of a phrase that counts things so -/
def ysN (set : Int32) (T : Nat → Nat) : Nat := sumN (fun t => btN set t * T t) 16
theorem ysN_le {set : Int32} {T : Nat → Nat} {c : Nat} (h : ∀ t, t < 16 → T t ≤ c) : ysN set T ≤ 16 * c := by
  unfold ysN
  rw [← sumN_k c 16]
  refine sumN_le 16 (fun j hj => ?_)
  rcases btN_1 set j with e | e <;> rw [e]
  · omega
  · rw [Nat.one_mul]; exact h j hj
theorem ys_cn {set : Int32} {bs : Nat → Nat} : ∀ L, (∀ k, k < L → bs k < 16) → ysN set (fun t => cn (fun k => decide (bs k = t)) L) = sumN (fun k => btN set (bs k)) L
  | 0, _ => by
    unfold ysN
    exact sumN_0 16 (fun j hj => Nat.mul_zero _)
  | L + 1, h => by
    have ih := ys_cn (set := set) (bs := bs) L (fun k hk => h k (by omega))
    show _ = sumN (fun k => btN set (bs k)) L + btN set (bs L)
    rw [← ih]
    unfold ysN
    have e : sumN (fun t => btN set t * cn (fun k => decide (bs k = t)) (L + 1)) 16 = sumN (fun t => btN set t * cn (fun k => decide (bs k = t)) L + btN set t * (bif decide (bs L = t) then 1 else 0)) 16 := sumN_c 16 (fun t ht => by
      show btN set t * (cn (fun k => decide (bs k = t)) L + (bif decide (bs L = t) then 1 else 0)) = _
      rw [Nat.mul_add])
    rw [e, sumN_add]
    congr 1
    rw [sumN_one (c := bs L) 16 (h L (by omega)) (fun j hj hne => by rw [decide_eq_false (show ¬ bs L = j from fun q => hne q.symm)]; exact Nat.mul_zero _)]
    rw [decide_eq_true (show bs L = bs L from rfl)]
    exact Nat.mul_one _
/-! the class -/
def frs : Nat → Nat → Bool := fun r j => nin [28, 29, 30, 31, 32] r && (!Nat.beq r 26 || Nat.beq j 0)
theorem frs_pC {b : Bool} {N N' : M2} (h : agr frs N N') : agr (pC b) N N' := by
  refine agr_m (fun r j hq => ?_) h
  unfold frs
  have h1 : nin [28, 29, 30, 31, 32] r = true := nin_c (q := pC b) (fun a ha j => by
    simp only [List.mem_cons, List.not_mem_nil, or_false] at ha
    rcases ha with e | e | e | e | e <;> subst e <;> rfl) r j hq
  rw [h1]
  cases hb : Nat.beq r 26 with
  | false => rfl
  | true =>
    have := Nat.eq_of_beq_eq_true hb
    subst this
    have hq2 : Nat.beq j 0 = true := hq
    rw [hq2]; rfl
theorem frs_m {l : List Nat} (hl : ∀ a, a ∈ l → nin [28, 29, 30, 31, 32] a = false) {N N' : M2} (h : agr (fr l) N N') : agr frs N N' := fr_m (q := frs) (fun a ha j => by unfold frs; rw [hl a ha]; rfl) h
def rowK (N : M2) (p : Nat) (T : Nat → Nat) (Z : Nat) : Prop := (∀ t, t < 16 → gI N 28 (p * 16 + t) = nI (T t)) ∧ gI N 29 p = nI Z
section PHRASE
variable {d : Nat} {b : Bool} {S : M2}
theorem c131 {g : Mm → Prop} {p : Nat} {N : M2} (hd : 1 ≤ d) (hp : p < 12) (q : ∀ N', agr (fr [28, 29]) N N' → (∀ j, (j < p * 16 ∨ (p + 1) * 16 ≤ j) → gI N' 28 j = gI N 28 j) → (∀ t, t < 16 → gI N' 28 (p * 16 + t) = 0) → gI N' 29 p = 0 → (∀ c, c ≠ p → gI N' 29 c = gI N 29 c) → g (FR b, N')) : WP d 107 131 0 [.ref 26, .int (nI p), U] [] 107 (FR b, N) (rV g) := by
  obtain ⟨d, rfl⟩ := ex1 hd
  have e16 : (nI p + 1) * 16 = nI ((p + 1) * 16) := by rw [nI_1, show (16 : Int32) = nI 16 from rfl, nI_mul]
  have l : ∀ m t (N2 : M2), t + m = 16 → agr (fr [28, 29]) N N2 → (∀ j, (j < p * 16 ∨ (p + 1) * 16 ≤ j) → gI N2 28 j = gI N 28 j) → (∀ t', t' < t → gI N2 28 (p * 16 + t') = 0) → gI N2 29 p = 0 → (∀ c, c ≠ p → gI N2 29 c = gI N 29 c) → WP (d + 1) 107 131 23 [.ref 26, .int (nI p), .int (nI (p * 16 + t))] [] 107 (FR b, N2) (rV g) := by
    intro m
    induction m with
    | zero =>
      intro t N2 ht h1 h2 h3 h4 h5
      refine v131_23 ?_
      rw [e16]
      exact brK_t (by rw [nI_leI (by omega) (by omega)]; omega) (q N2 h1 h2 (fun t' ht' => h3 t' (by omega)) h4 h5)
    | succ m ih =>
      intro t N2 ht h1 h2 h3 h4 h5
      refine v131_23 ?_
      rw [e16]
      refine brK_f (by rw [nI_leI (by omega) (by omega)]; omega) (iK_i (by rw [ix_n (by omega)]; omega) ?_)
      rw [ix_n (by omega), nI_1]
      refine ih (t + 1) _ (by omega) (agr_sI rfl h1) (fun j hj => ?_) (fun t' ht' => ?_) (by rw [gI_or (by decide)]; exact h4) (fun c hc => by rw [gI_or (by decide)]; exact h5 c hc)
      · rw [gI_oj (by omega)]; exact h2 j hj
      · by_cases e : t' = t
        · subst e; exact gI_s ..
        · rw [gI_oj (by omega)]; exact h3 t' (by omega)
  have z12 : (12 : Int32) = nI 12 := rfl
  refine v131_0 (brK_f (nI_pos (by omega)) (brK_t (by rw [z12, nI_ltI (by omega) (by decide)]; exact hp) (iK_i (by rw [ix_n (by omega)]; exact hp) ?_)))
  rw [ix_n (by omega), show (16 : Int32) = nI 16 from rfl, nI_mul]
  exact l 16 0 _ (by omega) (agr_sI rfl (agr_r N)) (fun j hj => gI_or (by decide)) (fun t' ht' => absurd ht' (by omega)) (gI_s ..) (fun c hc => gI_oj hc)
theorem c132 {g : Mm → Prop} {p : Nat} {v : Int32} {N : M2} (hd : 2 ≤ d) (hp : p < 12) (hv : rg v 16 = true) (q : g (FR b, sI (sI N 28 (p * 16 + ix v) (gI N 28 (p * 16 + ix v) + 1)) 29 p (gI N 29 p + 1))) : WP d 107 132 0 [.ref 26, .int (nI p), .int v] [] 107 (FR b, N) (rV g) := by
  obtain ⟨d, rfl⟩ := ex1 (e := 1) hd
  have h16 := rg_tt hv
  have e : ix (nI p * 16 + v) = p * 16 + ix v := by
    rw [show (16 : Int32) = nI 16 from rfl, nI_mul, ← n_ix v, nI_add, ix_n (by omega), n_ix]
  refine v132_0 (brK_f (nI_pos (by omega)) (brK_f (by rw [show (12 : Int32) = nI 12 from rfl, nI_leI (by decide) (by omega)]; omega) (c78 (by omega) ⟨rfl, brK_b (fun z => ff z hv) (fun _ => iK_i (by rw [e]; omega) (iK_i (by rw [e]; omega) (iK_i (by rw [ix_n (by omega)]; exact hp) (iK_i (by rw [ix_n (by omega)]; exact hp) ?_))))⟩)))
  rw [e, ix_n (by omega)]
  exact q
/-- saidBy -/
theorem c133 {f : Int32 → Mm → Prop} {p Z c : Nat} {T : Nat → Nat} {set : Int32} {N : M2} (hd : 2 ≤ d) (hp : p < 12) (hK : rowK N p T Z) (hT : ∀ t, t < 16 → T t ≤ c) (hZ : Z ≤ c) (hc : c ≤ 1000) (k : f (vdV (ysN set T) Z) (FR b, N)) : WP d 107 133 0 [.ref 26, .int set, .int (nI p), U, U] [] 107 (FR b, N) (rI f) := by
  obtain ⟨d, rfl⟩ := ex1 (e := 1) hd
  have hy := @ysN_le set T c hT
  have l : ∀ m t, t + m = 16 → WP (d + 1) 107 133 13 [.ref 26, .int set, .int (nI p), .int (-nI Z + nI (2 * sumN (fun t => btN set t * T t) t)), .int (nI t)] [] 107 (FR b, N) (rI f) := by
    intro m
    induction m with
    | zero =>
      intro t ht
      have : t = 16 := by omega
      subst this
      have hy2 : sumN (fun t => btN set t * T t) 16 ≤ 16 * c := hy
      have z1 := nI_toInt (n := Z) (by omega)
      have z2 : (-nI Z).toInt = -(Z : Int) := by
        rw [Int32.toInt_neg, z1]
        exact Int.bmod_eq_of_le (by omega) (by omega)
      have z3 := nI_toInt (n := 2 * sumN (fun t => btN set t * T t) 16) (by omega)
      have z4 : (-nI Z + nI (2 * sumN (fun t => btN set t * T t) 16)).toInt = -(Z : Int) + (2 * sumN (fun t => btN set t * T t) 16 : Nat) := by
        rw [add_toInt (by rw [z2, z3]; omega) (by rw [z2, z3]; omega), z2, z3]
      have hyd : ysN set T = sumN (fun t => btN set t * T t) 16 := rfl
      unfold vdV at k
      rw [hyd] at k
      refine v133_13 (brK_t (by decide) ⟨fun z => ?_, fun z => ⟨fun z5 => ?_, fun z5 => ?_⟩⟩)
      · rw [i_eq, z4, z_toInt] at z
        rw [decide_eq_false (show ¬ Z < 2 * sumN (fun t => btN set t * T t) 16 by omega), decide_eq_false (show ¬ 2 * sumN (fun t => btN set t * T t) 16 < Z by omega)] at k
        exact k
      · have z : ¬ (-nI Z + nI (2 * sumN (fun t => btN set t * T t) 16)).toInt = 0 := fun e => z (i_eq.mpr e)
        rw [i_le, z_toInt] at z5
        rw [z4] at z z5
        rw [decide_eq_false (show ¬ Z < 2 * sumN (fun t => btN set t * T t) 16 by omega), decide_eq_true (show 2 * sumN (fun t => btN set t * T t) 16 < Z by omega)] at k
        exact k
      · rw [i_le, z_toInt, z4] at z5
        rw [decide_eq_true (show Z < 2 * sumN (fun t => btN set t * T t) 16 by omega)] at k
        exact k
    | succ m ih =>
      intro t ht
      have e : ix (nI p * 16 + nI t) = p * 16 + t := by
        rw [show (16 : Int32) = nI 16 from rfl, nI_mul, nI_add, ix_n (by omega)]
      have ea : atV N 28 (nI p * 16 + nI t) = nI (T t) := by
        unfold atV
        rw [rg_t.mpr (by rw [e]; show p * 16 + t < 192; omega), e]
        exact hK.1 t (by omega)
      refine v133_13 (brK_f (by rw [show (16 : Int32) = nI 16 from rfl, nI_leI (by decide) (by omega)]; omega) (c15 (by omega) (by decide) (Or.inl rfl) ⟨rfl, ?_⟩))
      have nx := ih (t + 1) (by omega)
      have eb : (((set >>> (nI t &&& 31)) &&& 1) * 2 * nI (T t) : Int32) = nI (2 * (btN set t * T t)) := by
        show bitV set (nI t) * 2 * nI (T t) = _
        rw [btN_e, show (2 : Int32) = nI 2 from rfl, nI_mul, nI_mul]
        congr 1
        rw [Nat.mul_comm (btN set t) 2, Nat.mul_assoc]
      have es : sumN (fun t => btN set t * T t) (t + 1) = sumN (fun t => btN set t * T t) t + btN set t * T t := rfl
      rw [ea, eb, Int32.add_assoc, nI_add, nI_1]
      rw [es, Nat.mul_add] at nx
      exact nx
  refine v133_0 (c15 (by omega) (by decide) (Or.inl rfl) ⟨rfl, ?_⟩)
  have ea : atV N 29 (nI p) = nI Z := by
    unfold atV
    rw [rg_t.mpr (by rw [ix_n (by omega)]; exact hp), ix_n (by omega)]
    exact hK.2
  rw [ea]
  have := l 16 0 (by omega)
  rw [show (-nI Z + nI (2 * sumN (fun t => btN set t * T t) 0) : Int32) = -nI Z from Int32.add_zero _] at this
  exact this
/-! a phrase alone -/
def isTh (S : M2) (i k : Nat) : Bool := rg (byV S i (nI k)) 16
def phL (S : M2) (i : Nat) : Nat → Nat → Nat
  | 0, k => k
  | m + 1, k => bif isTh S i k then phL S i m (k + 1) else k
def szS (S : M2) (i : Nat) : Nat := ix (gI S (shC i) 3)
/-- how long it is -/
def phN (S : M2) (i : Nat) : Nat := phL S i (szS S i) 0
def bsN (S : M2) (i k : Nat) : Nat := ix (byV S i (nI k))
def phT (S : M2) (i t : Nat) : Nat := cn (fun k => decide (bsN S i k = t)) (phN S i)
def phY (S : M2) (i : Nat) (set : Int32) : Nat := sumN (fun k => btN set (bsN S i k)) (phN S i)
theorem phL_ok {S : M2} {i : Nat} : ∀ m k, (∀ j, j < k → isTh S i j = true) → k ≤ phL S i m k ∧ phL S i m k ≤ k + m ∧ ∀ j, j < phL S i m k → isTh S i j = true := by
  intro m
  induction m with
  | zero => intro k h; exact ⟨Nat.le_refl _, Nat.le_refl _, h⟩
  | succ m ih =>
    intro k h
    unfold phL
    cases hk : isTh S i k with
    | true =>
      have := ih (k + 1) (fun j hj => by
        by_cases e : j = k
        · subst e; exact hk
        · exact h j (by omega))
      exact ⟨by show k ≤ phL S i m (k + 1); omega, by show phL S i m (k + 1) ≤ _; omega, this.2.2⟩
    | false => exact ⟨Nat.le_refl _, by show k ≤ _; omega, h⟩
theorem phN_ok (S : M2) (i : Nat) : phN S i ≤ szS S i ∧ ∀ j, j < phN S i → bsN S i j < 16 := by
  have := phL_ok (S := S) (i := i) (szS S i) 0 (fun j hj => absurd hj (by omega))
  refine ⟨by unfold phN; omega, fun j hj => rg_tt (this.2.2 j hj)⟩
theorem ph_ys (S : M2) (i : Nat) (set : Int32) : ysN set (phT S i) = phY S i set := ys_cn (phN S i) (phN_ok S i).2
theorem c130 {g : Mm → Prop} {i : Nat} {N : M2} (hd : 4 ≤ d) (hI : INV b S) (hi : i < 6) (hr : isRowV S i 0 = true) (hA : agr (pC b) S N) (q : ∀ N', agr frs N N' → rowK N' 0 (phT S i) (phN S i) → g (FR b, N')) : WP d 107 130 0 [.ref 26, .ref (shC i), U] [] 107 (FR b, N) (rV g) := by
  obtain ⟨d, rfl⟩ := ex1 (e := 3) hd
  have hk := sh_kd i hi
  have h60 := (row_of hI hi hr).2.2.1
  have l : ∀ m k (N2 : M2), k + m = szS S i → phL S i m k = phN S i → agr frs N N2 → rowK N2 0 (fun t => cn (fun j => decide (bsN S i j = t)) k) k → WP (d + 1) 107 130 12 [.ref 26, .ref (shC i), .int (nI k)] [] 107 (FR b, N2) (rV g) := by
    intro m
    induction m with
    | zero =>
      intro k N2 hm hL hF hK
      have hA2 : agr (pC b) S N2 := agr_t hA (frs_pC hF)
      have : k = phN S i := hL
      subst this
      refine v130_12 (oK_i hk.2.1 hk.1 (brK_t ?_ (q N2 hF hK)))
      rw [agr_nI hA2 (shf_k b i hi 3).1, ← n_ix (gI S (shC i) 3), i_le]
      have : ix (gI S (shC i) 3) = phN S i := hm.symm
      rw [this]
      exact Int.le_refl _
    | succ m ih =>
      intro k N2 hm hL hF hK
      have hA2 : agr (pC b) S N2 := agr_t hA (frs_pC hF)
      have e3 : gI N2 (shC i) 3 = nI (szS S i) := by rw [agr_nI hA2 (shf_k b i hi 3).1]; exact (n_ix _).symm
      have hz : szS S i ≤ 60 := h60
      have h60' : ix (gI N2 (shC i) 3) ≤ 60 := by rw [e3, ix_n (by omega)]; exact hz
      unfold phL at hL
      refine v130_12 (oK_i hk.2.1 hk.1 (brK_f (by rw [e3, nI_leI (by omega) (by omega)]; omega) (oK_i hk.2.1 hk.1 (c70 (by omega) hi h60' ⟨rfl, c78 (by omega) ⟨rfl, ?_⟩⟩))))
      rw [byV_a hA2 hi]
      refine brK_b (fun z => ?_) (fun z => oK_i hk.2.1 hk.1 (c70 (by omega) hi h60' ⟨rfl, ?_⟩))
      · have z : isTh S i k = false := z
        rw [z] at hL
        have : k = phN S i := hL
        subst this
        exact q N2 hF hK
      · have z1 : isTh S i k = true := z
        rw [z1] at hL
        rw [byV_a hA2 hi]
        refine c132 (p := 0) (by omega) (by decide) z ⟨rfl, ?_⟩
        rw [nI_1]
        refine ih (k + 1) _ (by omega) hL (agr_sI rfl (agr_sI rfl hF)) ⟨fun t ht => ?_, ?_⟩
        · have hb : ix (byV S i (nI k)) = bsN S i k := rfl
          have ec : cn (fun j => decide (bsN S i j = t)) (k + 1) = cn (fun j => decide (bsN S i j = t)) k + (bif decide (bsN S i k = t) then 1 else 0) := rfl
          dsimp only
          rw [gI_or (by decide), hb, ec]
          by_cases e : t = bsN S i k
          · rw [← e, gI_s, decide_eq_true rfl, hK.1 t ht, nI_1]; rfl
          · rw [gI_oj (by omega), decide_eq_false (fun q => e q.symm), hK.1 t ht]; rfl
        · rw [gI_s]
          show gI N2 29 0 + 1 = _
          rw [hK.2, nI_1]
  have hA0 : agr frs N (sI N 26 2 0) := agr_sI rfl (agr_r N)
  refine v130_0 (c131 (p := 0) (by omega) (by decide) (fun N1 h1 h2 h3 h4 h5 => ⟨rfl, ?_⟩))
  exact l (szS S i) 0 N1 (by omega) rfl (agr_t hA0 (frs_m (by decide) h1)) ⟨fun t ht => h3 t ht, h4⟩
end PHRASE
