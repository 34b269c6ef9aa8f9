/-! SETS GONE THROUGH -/
abbrev FS : Type := Nat × Int32
def upS (gd : Nat → Bool) (st : FS) (s : Nat) : FS := bif Nat.ble st.1 (pop s) || !gd s then st else (pop s, nI s)
def scn (gd : Nat → Bool) : Nat → Nat → FS → FS
  | 0, _, st => st
  | m + 1, s, st => scn gd m (s + 1) (upS gd st s)
def chP (gd : Nat → Bool) (us : Nat → Bool) (ms : Nat → Nat → Bool) : Nat → Nat → FS → FS
  | 0, s, st => bif Nat.ble st.1 (pop s) || !ms 0 s then st else (pop s, nI s)
  | k + 1, s, st => bif Nat.ble st.1 (pop s) || !ms (k + 1) s then st else bif us k then chP gd us ms k (s + 2 ^ k) (chP gd us ms k s st) else chP gd us ms k s st
theorem upS_le (gd : Nat → Bool) (st : FS) (s : Nat) : (upS gd st s).1 ≤ st.1 := by
  unfold upS
  cases hb : (Nat.ble st.1 (pop s) || !gd s) with
  | true => exact Nat.le_refl _
  | false =>
    rw [Bool.or_eq_false_iff] at hb
    have : ¬ st.1 ≤ pop s := fun e => by rw [Nat.ble_eq_true_of_le e] at hb; exact absurd hb.1 (by decide)
    show pop s ≤ st.1
    omega
theorem upS_gd {gd : Nat → Bool} {st : FS} {s : Nat} (h : gd s = true) : (upS gd st s).1 ≤ pop s := by
  unfold upS
  rw [h]
  cases hb : Nat.ble st.1 (pop s) with
  | true => exact Nat.le_of_ble_eq_true hb
  | false => exact Nat.le_refl _
theorem upS_no {gd : Nat → Bool} {st : FS} {s : Nat} (h : gd s = true → st.1 ≤ pop s) : upS gd st s = st := by
  unfold upS
  cases hg : gd s with
  | true => rw [Nat.ble_eq_true_of_le (h hg)]; rfl
  | false => rw [show (!false) = true from rfl, Bool.or_true]; rfl
theorem scn_le {gd : Nat → Bool} : ∀ m s st, (scn gd m s st).1 ≤ st.1
  | 0, _, _ => Nat.le_refl _
  | m + 1, s, st => Nat.le_trans (scn_le m (s + 1) _) (upS_le gd st s)
theorem scn_gd {gd : Nat → Bool} : ∀ m s st, ∀ s', s ≤ s' → s' < s + m → gd s' = true → (scn gd m s st).1 ≤ pop s'
  | 0, s, _, s', h1, h2, _ => absurd h2 (by omega)
  | m + 1, s, st, s', h1, h2, h3 => by
    unfold scn
    by_cases e : s' = s
    · subst e
      exact Nat.le_trans (scn_le m _ _) (upS_gd h3)
    · exact scn_gd m (s + 1) _ s' (by omega) (by omega) h3
theorem scn_no {gd : Nat → Bool} : ∀ m s (st : FS), (∀ s', s ≤ s' → s' < s + m → gd s' = true → st.1 ≤ pop s') → scn gd m s st = st
  | 0, _, _, _ => rfl
  | m + 1, s, st, h => by
    unfold scn
    rw [upS_no (h s (by omega) (by omega))]
    exact scn_no m (s + 1) st (fun s' h1 h2 h3 => h s' (by omega) (by omega) h3)
theorem scn_app {gd : Nat → Bool} : ∀ m n s st, scn gd (m + n) s st = scn gd n (s + m) (scn gd m s st)
  | 0, n, s, st => by rw [Nat.zero_add]; rfl
  | m + 1, n, s, st => by
    rw [show m + 1 + n = (m + n) + 1 by omega]
    show scn gd (m + n) (s + 1) (upS gd st s) = scn gd n (s + (m + 1)) (scn gd m (s + 1) (upS gd st s))
    rw [scn_app m n (s + 1) _, show s + 1 + m = s + (m + 1) by omega]
theorem pow_s (k : Nat) : 2 ^ (k + 1) = 2 ^ k + 2 ^ k := by rw [Nat.pow_succ]; omega
theorem chP_scn {gd us : Nat → Bool} {ms : Nat → Nat → Bool} (H0 : ∀ s, s < 65536 → ms 0 s = gd s) (H1 : ∀ k a c, k ≤ 16 → 2 ^ k * a < 65536 → c < 2 ^ k → ms k (2 ^ k * a) = false → gd (2 ^ k * a + c) = false) (H2 : ∀ k a c, k < 16 → 2 ^ (k + 1) * a < 65536 → c < 2 ^ k → us k = false → gd (2 ^ (k + 1) * a + 2 ^ k + c) = true → gd (2 ^ (k + 1) * a + c) = true) : ∀ k, k ≤ 16 → ∀ a st, 2 ^ k * a < 65536 → chP gd us ms k (2 ^ k * a) st = scn gd (2 ^ k) (2 ^ k * a) st := by
  have no : ∀ k, k ≤ 16 → ∀ a (st : FS), 2 ^ k * a < 65536 → (Nat.ble st.1 (pop (2 ^ k * a)) || !ms k (2 ^ k * a)) = true → scn gd (2 ^ k) (2 ^ k * a) st = st := by
    intro k hk a st h q
    refine scn_no _ _ st (fun s' h1 h2 h3 => ?_)
    obtain ⟨c, rfl⟩ : ∃ c, s' = 2 ^ k * a + c := ⟨s' - 2 ^ k * a, by omega⟩
    have hc : c < 2 ^ k := by omega
    rw [Bool.or_eq_true] at q
    rcases q with q | q
    · rw [pop_add hc]
      have := Nat.le_of_ble_eq_true q
      omega
    · have hm : ms k (2 ^ k * a) = false := by
        cases hz : ms k (2 ^ k * a) with
        | false => rfl
        | true => rw [hz] at q; exact absurd q (by decide)
      rw [H1 k a c hk h hc hm] at h3
      exact absurd h3 (by decide)
  intro k
  induction k with
  | zero =>
    intro _ a st h
    unfold chP
    have e : 2 ^ 0 * a = a := by rw [Nat.pow_zero, Nat.one_mul]
    rw [e] at h ⊢
    rw [H0 a h]
    rfl
  | succ k ih =>
    intro hk a st h
    unfold chP
    cases q : (Nat.ble st.1 (pop (2 ^ (k + 1) * a)) || !ms (k + 1) (2 ^ (k + 1) * a)) with
    | true => exact (no (k + 1) hk a st h q).symm
    | false =>
      have e1 : 2 ^ (k + 1) * a = 2 ^ k * (2 * a) := by rw [Nat.pow_succ, Nat.mul_assoc]
      have e2 : 2 ^ (k + 1) * a + 2 ^ k = 2 ^ k * (2 * a + 1) := by rw [e1, Nat.mul_add, Nat.mul_one]
      have hp : 2 ^ (k + 1) ∣ 65536 := by
        have : (65536 : Nat) = 2 ^ 16 := by decide
        rw [this]
        exact Nat.pow_dvd_pow 2 hk
      have hlt : 2 ^ (k + 1) * a + 2 ^ (k + 1) ≤ 65536 := by
        obtain ⟨z, hz⟩ := hp
        rw [hz] at h ⊢
        have : a < z := Nat.lt_of_mul_lt_mul_left h
        have : 2 ^ (k + 1) * (a + 1) ≤ 2 ^ (k + 1) * z := Nat.mul_le_mul_left _ (by omega)
        rw [Nat.mul_add, Nat.mul_one] at this
        exact this
      have hpk := pow_s k
      have hpos := Nat.two_pow_pos k
      have A := ih (by omega) (2 * a) st (by rw [← e1]; exact h)
      rw [← e1] at A
      show (bif us k then chP gd us ms k (2 ^ (k + 1) * a + 2 ^ k) (chP gd us ms k (2 ^ (k + 1) * a) st) else chP gd us ms k (2 ^ (k + 1) * a) st) = scn gd (2 ^ (k + 1)) (2 ^ (k + 1) * a) st
      rw [show scn gd (2 ^ (k + 1)) (2 ^ (k + 1) * a) st = scn gd (2 ^ k) (2 ^ (k + 1) * a + 2 ^ k) (scn gd (2 ^ k) (2 ^ (k + 1) * a) st) by rw [← scn_app, ← hpk], A]
      cases hu : us k with
      | true =>
        have B := ih (by omega) (2 * a + 1) (scn gd (2 ^ k) (2 ^ (k + 1) * a) st) (by rw [← e2]; omega)
        rw [← e2] at B
        exact B
      | false =>
        refine (scn_no _ _ _ (fun s' h1 h2 h3 => ?_)).symm
        obtain ⟨c, rfl⟩ : ∃ c, s' = 2 ^ (k + 1) * a + 2 ^ k + c := ⟨s' - (2 ^ (k + 1) * a + 2 ^ k), by omega⟩
        have hc : c < 2 ^ k := by omega
        have g2 := H2 k a c (by omega) h hc hu h3
        have le := scn_gd (2 ^ k) (2 ^ (k + 1) * a) st (2 ^ (k + 1) * a + c) (by omega) (by omega) g2
        have p1 := pop_add (a := 2 * a + 1) (b := c) (k := k) hc
        rw [← e2] at p1
        have p2 := pop_add (a := 2 * a) (b := c) (k := k) hc
        rw [← e1] at p2
        have p3 := pop_add (a := a) (b := 2 ^ k) (k := k + 1) (by omega)
        show (scn gd (2 ^ k) (2 ^ (k + 1) * a) st).1 ≤ pop (2 ^ (k + 1) * a + 2 ^ k + c)
        omega
/-- the same from two beginnings that both lie above all -/
theorem scn_two {gd : Nat → Bool} : ∀ m s (st st' : FS), (st = st' ∨ (16 < st.1 ∧ 16 < st'.1 ∧ st.2 = -1 ∧ st'.2 = -2)) → (scn gd m s st = scn gd m s st' ∨ (16 < (scn gd m s st).1 ∧ 16 < (scn gd m s st').1 ∧ (scn gd m s st).2 = -1 ∧ (scn gd m s st').2 = -2))
  | 0, _, _, _, h => h
  | m + 1, s, st, st', h => by
    unfold scn
    refine scn_two m (s + 1) _ _ ?_
    rcases h with h | ⟨h1, h2, h3, h4⟩
    · rw [h]; exact Or.inl rfl
    · have hp := pop_le s
      have n1 : ∀ x : Nat, 16 < x → Nat.ble x (pop s) = false := fun x hx => by
        cases hb : Nat.ble x (pop s) with
        | false => rfl
        | true => have := Nat.le_of_ble_eq_true hb; omega
      unfold upS
      rw [n1 _ h1, n1 _ h2]
      cases gd s with
      | true => exact Or.inl rfl
      | false => exact Or.inr ⟨h1, h2, h3, h4⟩
/-- what is found is a set, and its size -/
theorem scn_is {gd : Nat → Bool} {bs : Int32} : ∀ m s (st : FS), s + m ≤ 65536 → ((16 < st.1 ∧ st.2 = bs) ∨ ∃ z, z < 65536 ∧ st = (pop z, nI z)) → ((16 < (scn gd m s st).1 ∧ (scn gd m s st).2 = bs) ∨ ∃ z, z < 65536 ∧ scn gd m s st = (pop z, nI z))
  | 0, _, _, _, h => h
  | m + 1, s, st, hs, h => by
    unfold scn
    refine scn_is m (s + 1) _ (by omega) ?_
    unfold upS
    cases (Nat.ble st.1 (pop s) || !gd s) with
    | true => exact h
    | false => exact Or.inr ⟨s, by omega, rfl⟩
/-! OF VERDICTS -/
def allN : Nat → (Nat → Bool) → Bool
  | 0, _ => true
  | n + 1, f => allN n f && f n
theorem allN_i {f : Nat → Bool} : ∀ n, allN n f = true ↔ ∀ p, p < n → f p = true
  | 0 => ⟨fun _ p hp => absurd hp (by omega), fun _ => rfl⟩
  | n + 1 => by
    unfold allN
    rw [Bool.and_eq_true, allN_i n]
    refine ⟨fun h p hp => ?_, fun h => ⟨fun p hp => h p (by omega), h n (by omega)⟩⟩
    by_cases e : p = n
    · subst e; exact h.2
    · exact h.1 p (by omega)
theorem allN_f {f : Nat → Bool} {n : Nat} : allN n f = false ↔ ∃ p, p < n ∧ f p = false := by
  constructor
  · intro h
    induction n with
    | zero => exact absurd h (by simp [allN])
    | succ n ih =>
      unfold allN at h
      rw [Bool.and_eq_false_iff] at h
      rcases h with h | h
      · obtain ⟨p, h1, h2⟩ := ih h
        exact ⟨p, by omega, h2⟩
      · exact ⟨n, by omega, h⟩
  · rintro ⟨p, h1, h2⟩
    cases hh : allN n f with
    | false => rfl
    | true => rw [(allN_i n).mp hh p h1] at h2; exact absurd h2 (by decide)
/-- yes of a phrase by a set -/
def yN (q : PS) (p s : Nat) : Nat := sumN (fun t => tb s t * psT' q p t) 16
def dY (q : PS) (p : Nat) : Bool := decide (q.2.2.2 p = 1)
def usV (q : PS) (t : Nat) : Bool := !allN q.1 (fun p => !(dY q p && Nat.blt 0 (psT' q p t)))
def lfN (q : PS) (p k : Nat) : Nat := sumN (fun t => bif usV q t then psT' q p t else 0) k
def msV1 (q : PS) (k s p : Nat) : Bool := bif dY q p then Nat.blt (q.2.2.1 p) (2 * (yN q p s + lfN q p k)) else Nat.blt (2 * yN q p s) (q.2.2.1 p)
def msV (q : PS) (k s : Nat) : Bool := allN q.1 (msV1 q k s)
def gdV (q : PS) (s : Nat) : Bool := allN q.1 (fun p => soV q (nI s) p)
theorem yN_ys {q : PS} {p s : Nat} (hs : s < 65536) : ysN (nI s) (psT' q p) = yN q p s := by
  unfold ysN yN
  exact sumN_c 16 (fun t ht => by rw [btN_n (by omega) (by omega)])
theorem yN_add {q : PS} {p a c k : Nat} (hc : c < 2 ^ k) : yN q p (2 ^ k * a + c) = yN q p (2 ^ k * a) + yN q p c := by
  unfold yN
  rw [← sumN_add]
  exact sumN_c 16 (fun t ht => by rw [tb_add hc, Nat.add_mul])
theorem yN_pow {q : PS} {p k : Nat} (hk : k < 16) : yN q p (2 ^ k) = psT' q p k := by
  unfold yN
  rw [sumN_one (c := k) 16 hk (fun j hj hne => by
    rw [tb_pow, show Nat.beq j k = false from by
      cases hb : Nat.beq j k with
      | false => rfl
      | true => exact absurd (Nat.eq_of_beq_eq_true hb) hne]
    exact Nat.zero_mul _), tb_pow, Nat.beq_refl]
  exact Nat.one_mul _
theorem so_i {q : PS} {k p s : Nat} (hq : psK q k) (hs : s < 65536) : soV q (nI s) p = msV1 q 0 s p := by
  unfold soV msV1
  rw [yN_ys hs]
  have l0 : lfN q p 0 = 0 := rfl
  rw [l0, Nat.add_zero]
  unfold dY
  have hz : ∀ a c : Nat, decide (a < c) = Nat.blt a c := fun a c => by
    by_cases e : a < c
    · rw [decide_eq_true e]; exact (Nat.ble_eq_true_of_le e).symm
    · rw [decide_eq_false e]
      cases hb : Nat.blt a c with
      | false => rfl
      | true => exact absurd (Nat.le_of_ble_eq_true hb) e
  unfold vdV
  rcases hq.2.2.2.2 p with h | h
  · rw [h, decide_eq_false (show ¬ (0 : Int32) = 1 by decide)]
    show _ = Nat.blt (2 * yN q p s) (q.2.2.1 p)
    rw [← hz]
    by_cases e1 : q.2.2.1 p < 2 * yN q p s
    · rw [decide_eq_true e1, decide_eq_false (show ¬ 2 * yN q p s < q.2.2.1 p by omega)]; rfl
    · rw [decide_eq_false e1]
      by_cases e2 : 2 * yN q p s < q.2.2.1 p
      · rw [decide_eq_true e2]; rfl
      · rw [decide_eq_false e2]; rfl
  · rw [h, decide_eq_true (show (1 : Int32) = 1 from rfl)]
    show _ = Nat.blt (q.2.2.1 p) (2 * yN q p s)
    rw [← hz]
    by_cases e1 : q.2.2.1 p < 2 * yN q p s
    · rw [decide_eq_true e1]; rfl
    · rw [decide_eq_false e1]
      by_cases e2 : 2 * yN q p s < q.2.2.1 p
      · rw [decide_eq_true e2]; rfl
      · rw [decide_eq_false e2]; rfl
theorem blt_i {a c : Nat} : Nat.blt a c = true ↔ a < c := ⟨fun h => Nat.le_of_ble_eq_true h, fun h => Nat.ble_eq_true_of_le h⟩
theorem blt_f {a c : Nat} : Nat.blt a c = false ↔ ¬ a < c := by
  constructor
  · intro h e; rw [blt_i.mpr e] at h; exact absurd h (by decide)
  · intro h
    cases hb : Nat.blt a c with
    | false => rfl
    | true => exact absurd (blt_i.mp hb) h
theorem gd_ms {q : PS} {k s : Nat} (hq : psK q k) (hs : s < 65536) : msV q 0 s = gdV q s := by
  unfold msV gdV
  have : ∀ n, allN n (msV1 q 0 s) = allN n (fun p => soV q (nI s) p) := by
    intro n
    induction n with
    | zero => rfl
    | succ n ih => unfold allN; rw [ih, ← so_i hq hs]
  exact this q.1
theorem us_f {q : PS} {p t : Nat} (hu : usV q t = false) (hp : p < q.1) (hd : dY q p = true) : psT' q p t = 0 := by
  unfold usV at hu
  have h : allN q.1 (fun p => !(dY q p && Nat.blt 0 (psT' q p t))) = true := by
    cases hz : allN q.1 (fun p => !(dY q p && Nat.blt 0 (psT' q p t))) with
    | true => rfl
    | false => rw [hz] at hu; exact absurd hu (by decide)
  have h2 := (allN_i _).mp h p hp
  rw [hd] at h2
  have h3 : (!(Nat.blt 0 (psT' q p t))) = true := h2
  cases hb : Nat.blt 0 (psT' q p t) with
  | true => rw [hb] at h3; exact absurd h3 (by decide)
  | false => have := blt_f.mp hb; omega
theorem yN_lf {q : PS} {p c k : Nat} (hk : k ≤ 16) (hc : c < 2 ^ k) (hp : p < q.1) (hd : dY q p = true) : yN q p c ≤ lfN q p k := by
  have e : ∀ m, sumN (fun t => tb c t * psT' q p t) (k + m) = sumN (fun t => tb c t * psT' q p t) k := by
    intro m
    induction m with
    | zero => rfl
    | succ m ih =>
      show sumN (fun t => tb c t * psT' q p t) (k + m) + tb c (k + m) * psT' q p (k + m) = _
      rw [ih, tb_ge hc (by omega), Nat.zero_mul]
      rfl
  unfold yN
  have e2 := e (16 - k)
  rw [show k + (16 - k) = 16 by omega] at e2
  rw [e2]
  unfold lfN
  refine sumN_le k (fun t ht => ?_)
  cases hu : usV q t with
  | true =>
    show tb c t * psT' q p t ≤ psT' q p t
    have := tb_1 c t
    have h01 : tb c t = 0 ∨ tb c t = 1 := by omega
    rcases h01 with h | h <;> rw [h] <;> omega
  | false => rw [us_f hu hp hd, Nat.mul_zero]; exact Nat.le_refl _
theorem choose_ok {q : PS} {z : Nat} (hq : psK q z) (st : FS) : chP (gdV q) (usV q) (msV q) 16 0 st = scn (gdV q) 65536 0 st := by
  have := chP_scn (gd := gdV q) (us := usV q) (ms := msV q) (fun s hs => gd_ms hq hs) ?_ ?_ 16 (Nat.le_refl _) 0 st (by decide)
  · rw [Nat.mul_zero] at this
    exact this
  · intro k a c hk h hc hm
    obtain ⟨p, hp, hf⟩ := allN_f.mp hm
    have hlt : 2 ^ k * a + c < 65536 := by
      have hp : 2 ^ k ∣ 65536 := by
        have : (65536 : Nat) = 2 ^ 16 := by decide
        rw [this]
        exact Nat.pow_dvd_pow 2 hk
      obtain ⟨w, hw⟩ := hp
      rw [hw] at h ⊢
      have : a < w := Nat.lt_of_mul_lt_mul_left h
      have : 2 ^ k * (a + 1) ≤ 2 ^ k * w := Nat.mul_le_mul_left _ (by omega)
      rw [Nat.mul_add, Nat.mul_one] at this
      omega
    rw [← gd_ms hq hlt]
    refine allN_f.mpr ⟨p, hp, ?_⟩
    unfold msV1 at hf ⊢
    have l0 : lfN q p 0 = 0 := rfl
    rw [l0, yN_add hc]
    cases hd : dY q p with
    | true =>
      rw [hd] at hf
      have hf := blt_f.mp hf
      have := yN_lf hk hc hp hd
      exact blt_f.mpr (by omega)
    | false =>
      rw [hd] at hf
      have hf := blt_f.mp hf
      exact blt_f.mpr (by omega)
  · intro k a c hk h hc hu hg
    have hpk := pow_s k
    have hlt : 2 ^ (k + 1) * a + 2 ^ k + c < 65536 := by
      have hp : 2 ^ (k + 1) ∣ 65536 := by
        have : (65536 : Nat) = 2 ^ 16 := by decide
        rw [this]
        exact Nat.pow_dvd_pow 2 hk
      obtain ⟨w, hw⟩ := hp
      rw [hw] at h ⊢
      have : a < w := Nat.lt_of_mul_lt_mul_left h
      have : 2 ^ (k + 1) * (a + 1) ≤ 2 ^ (k + 1) * w := Nat.mul_le_mul_left _ (by omega)
      rw [Nat.mul_add, Nat.mul_one] at this
      omega
    rw [← gd_ms hq hlt] at hg
    rw [← gd_ms hq (by omega)]
    have hg := (allN_i _).mp hg
    refine (allN_i _).mpr (fun p hp => ?_)
    have g1 := hg p hp
    have e1 : 2 ^ (k + 1) * a = 2 ^ k * (2 * a) := by rw [Nat.pow_succ, Nat.mul_assoc]
    have e2 : 2 ^ (k + 1) * a + 2 ^ k = 2 ^ k * (2 * a + 1) := by rw [e1, Nat.mul_add, Nat.mul_one]
    have y1 := yN_add (q := q) (p := p) (a := 2 * a + 1) (c := c) (k := k) hc
    rw [← e2] at y1
    have y2 := yN_add (q := q) (p := p) (a := 2 * a) (c := c) (k := k) hc
    rw [← e1] at y2
    have y3 := yN_add (q := q) (p := p) (a := a) (c := 2 ^ k) (k := k + 1) (by have := Nat.two_pow_pos k; omega)
    have y4 := yN_pow (q := q) (p := p) hk
    unfold msV1 at g1 ⊢
    have l0 : lfN q p 0 = 0 := rfl
    rw [l0] at g1 ⊢
    cases hd : dY q p with
    | true =>
      rw [hd] at g1
      have g1 := blt_i.mp g1
      have := us_f hu hp hd
      exact blt_i.mpr (by omega)
    | false =>
      rw [hd] at g1
      have g1 := blt_i.mp g1
      exact blt_i.mpr (by omega)
