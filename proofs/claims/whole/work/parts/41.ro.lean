/-! CALLS THAT CHANGE NOTHING THAT LASTS -/
theorem le_him : ∀ b r j, pHim r j = true → pC b r j = true := by
  intro b r j h
  unfold pHim at h
  simp only [Bool.or_eq_true, Nat.beq_eq] at h
  rcases h with h | h <;> subst h <;> rfl
theorem le_stat : ∀ b r j, pStat r j = true → pC b r j = true := by
  intro b r j h
  unfold pStat at h
  simp only [Nat.blt_eq] at h
  have : r = 0 ∨ r = 1 ∨ r = 2 := by omega
  rcases this with h | h | h <;> subst h <;> rfl
theorem le_vil : ∀ b r j, pVil r j = true → pC b r j = true := by
  intro b r j h
  unfold pVil at h
  simp only [Bool.or_eq_true, Bool.and_eq_true, Nat.beq_eq, Nat.ble_eq] at h
  have : (r = 18 ∧ j = 0) ∨ r = 19 ∨ r = 20 ∨ r = 21 ∨ r = 22 ∨ (r = 67 ∧ j = 2) ∨ r = 69 ∨ r = 70 ∨ r = 71 ∨ r = 72 := by omega
  rcases this with ⟨h, g⟩ | h | h | h | h | ⟨h, g⟩ | h | h | h | h <;> subst h <;> (try subst g) <;> rfl
theorem le_sch : ∀ b r j, pSch r j = true → pC b r j = true := by
  intro b r j h
  unfold pSch at h
  simp only [Bool.or_eq_true, Bool.and_eq_true, Nat.beq_eq, Nat.ble_eq] at h
  have : (r = 26 ∧ j = 0) ∨ r = 27 ∨ (r = 67 ∧ j = 7) ∨ r = 73 := by omega
  rcases this with ⟨h, g⟩ | h | ⟨h, g⟩ | h <;> subst h <;> (try subst g) <;> rfl
theorem le_led : ∀ b r j, pLed r j = true → pC b r j = true := by
  intro b r j h
  unfold pLed at h
  simp only [Bool.or_eq_true, Bool.and_eq_true, Nat.beq_eq, Nat.ble_eq] at h
  have : r = 33 ∨ r = 34 ∨ (r = 67 ∧ j = 54) ∨ r = 98 ∨ r = 99 ∨ r = 100 := by omega
  rcases this with h | h | ⟨h, g⟩ | h | h | h <;> subst h <;> (try subst g) <;> rfl
theorem le_chg : ∀ b r j, pChg r j = true → pC b r j = true := by
  intro b r j h
  unfold pChg at h
  simp only [Bool.or_eq_true, Bool.and_eq_true, Nat.beq_eq, Nat.ble_eq] at h
  have : r = 35 ∨ r = 36 ∨ r = 37 ∨ r = 38 ∨ r = 39 ∨ (r = 67 ∧ j = 9) ∨ (r = 67 ∧ j = 10) ∨ r = 74 ∨ r = 75 ∨ r = 76 ∨ r = 77 := by omega
  rcases this with h | h | h | h | h | ⟨h, g⟩ | ⟨h, g⟩ | h | h | h | h <;> subst h <;> (try subst g) <;> rfl
theorem le_act : ∀ b r j, pAct r j = true → pC b r j = true := by
  intro b r j h
  unfold pAct at h
  simp only [Bool.or_eq_true, Bool.and_eq_true, Nat.beq_eq, Nat.ble_eq] at h
  have : r = 40 ∨ r = 41 ∨ r = 42 ∨ (r = 67 ∧ j = 57) ∨ (r = 67 ∧ j = 59) ∨ r = 101 ∨ r = 102 := by omega
  rcases this with h | h | h | ⟨h, g⟩ | ⟨h, g⟩ | h | h <;> subst h <;> (try subst g) <;> rfl
theorem le_shf : ∀ b r j, pShf r j = true → pC b r j = true := by
  intro b r j h
  unfold pShf at h
  simp only [Bool.or_eq_true, Bool.and_eq_true, Nat.beq_eq, Nat.ble_eq] at h
  have : r = 55 ∨ r = 56 ∨ r = 57 ∨ r = 58 ∨ r = 59 ∨ r = 60 ∨ r = 61 ∨ r = 62 ∨ r = 63 ∨ r = 64 ∨ r = 65 ∨ r = 66 ∨ (r = 40 ∧ j = 0) ∨ r = 103 ∨ r = 104 ∨ r = 105 := by omega
  rcases this with h | h | h | h | h | h | h | h | h | h | h | h | ⟨h, g⟩ | h | h | h <;> subst h <;> (try subst g) <;> rfl
theorem le_tap : ∀ b r j, pTap r j = true → pC b r j = true := by
  intro b r j h
  unfold pTap at h
  simp only [Bool.or_eq_true, Bool.and_eq_true, Nat.beq_eq, Nat.ble_eq] at h
  have : (r = 7 ∧ j = 0) ∨ r = 8 ∨ (r = 67 ∧ j = 16) ∨ r = 78 := by omega
  rcases this with ⟨h, g⟩ | h | ⟨h, g⟩ | h <;> subst h <;> (try subst g) <;> rfl
theorem le_law : ∀ b r j, pLaw b r j = true → pC b r j = true := by
  intro b r j h
  unfold pLaw at h
  rw [Bool.and_eq_true] at h
  exact h.1
theorem INV_a {b : Bool} {M M' : M2} (h : agr (pC b) M M') (hI : INV b M) : INV b M' := by
  obtain ⟨hS, hH, hV, hSc, hL, hC, hA, hSh, hT, hLw⟩ := hI
  exact ⟨StatW_a (agr_m (le_stat b) h) hS, HimR_a (agr_m (le_him b) h) hH, VilR_a (agr_m (le_vil b) h) hV, SchR_a (agr_m (le_sch b) h) hSc, LedR_a (agr_m (le_led b) h) hL, ChgR_a (agr_m (le_chg b) h) hC, ActR_a (agr_m (le_act b) h) hA, ShfR_a (agr_m (le_shf b) h) hSh, TapR_a (agr_m (le_tap b) h) hT, LawR_a (agr_m (le_law b) h) hLw⟩
theorem agr_3 {b : Bool} {M M' : M2} (h : agr (pC b) M M') : gI M' 3 = gI M 3 := funext fun j => (h 3 j rfl).1
theorem PAIR_ro {b : Bool} {M : M2} {mc mm : Nat} {ac am : List Value} (hI : INV b M) (v : Int32)
    (hc : ∀ d, 199 ≤ d → ∀ f : Int32 → Mm → Prop, (∀ M', agr (pC b) M M' → f v (FR b, M')) → WP (d + 1) 107 mc 0 ac [] 107 (FR b, M) (rI f))
    (hm : ∀ N, agr (pC b) M N → ∀ d, 199 ≤ d → ∀ f : Int32 → Mm → Prop, (∀ M', agr (pC b) M M' → f v (FR b, M')) → WP (d + 1) 107 mm 0 am [] 107 (FR b, N) (rI f)) : PAIR b M mc mm ac am := by
  intro d hd f k
  obtain ⟨d, rfl⟩ := ex1 (e := 199) hd
  exact hc d (by omega) f (fun M1 h1 => k v M1 (agr_3 h1) (fun f2 k2 => hm M1 h1 d (by omega) f2 (fun M' h' => k2 M' (INV_a h' hI) (agr_3 h'))))
theorem PAIRL_ro {b : Bool} {M : M2} {mc mm : Nat} {ac am : List Value} (hI : INV b M) (v : Int64)
    (hc : ∀ d, 199 ≤ d → ∀ f : Int64 → Mm → Prop, (∀ M', agr (pC b) M M' → f v (FR b, M')) → WP (d + 1) 107 mc 0 ac [] 107 (FR b, M) (rL f))
    (hm : ∀ N, agr (pC b) M N → ∀ d, 199 ≤ d → ∀ f : Int64 → Mm → Prop, (∀ M', agr (pC b) M M' → f v (FR b, M')) → WP (d + 1) 107 mm 0 am [] 107 (FR b, N) (rL f)) : PAIRL b M mc mm ac am := by
  intro d hd f k
  obtain ⟨d, rfl⟩ := ex1 (e := 199) hd
  exact hc d (by omega) f (fun M1 h1 => k v M1 (agr_3 h1) (fun f2 k2 => hm M1 h1 d (by omega) f2 (fun M' h' => k2 M' (INV_a h' hI) (agr_3 h'))))
/-- all cells but some -/
def nin : List Nat → Nat → Bool
  | [], _ => true
  | a :: t, r => !Nat.beq r a && nin t r
def fr (l : List Nat) : Nat → Nat → Bool := fun r _ => nin l r
theorem nin_c {l : List Nat} {q : Nat → Nat → Bool} (hq : ∀ a, a ∈ l → ∀ j, q a j = false) : ∀ r j, q r j = true → nin l r = true := by
  intro r j h
  induction l with
  | nil => rfl
  | cons a t ih =>
    have h1 : Nat.beq r a = false := by
      cases hb : Nat.beq r a with
      | false => rfl
      | true =>
        have := Nat.eq_of_beq_eq_true hb
        subst this
        rw [hq r (List.mem_cons_self ..) j] at h
        exact absurd h (by decide)
    unfold nin
    rw [h1, ih (fun c hc => hq c (List.mem_cons_of_mem _ hc))]
    rfl
theorem fr_m {l : List Nat} {q : Nat → Nat → Bool} (hq : ∀ a, a ∈ l → ∀ j, q a j = false) {M M' : M2} (h : agr (fr l) M M') : agr q M M' := agr_m (nin_c hq) h
theorem fr_s {l m : List Nat} (hm : ∀ a, a ∈ l → nin m a = false) {M M' : M2} (h : agr (fr l) M M') : agr (fr m) M M' := fr_m (q := fr m) (fun a ha _ => hm a ha) h
theorem agr_nI {p : Nat → Nat → Bool} {M M' : M2} (h : agr p M M') {r j : Nat} (hp : p r j = true) : gI M' r j = gI M r j := (h r j hp).1
theorem agr_nL {p : Nat → Nat → Bool} {M M' : M2} (h : agr p M M') {r j : Nat} (hp : p r j = true) : gL M' r j = gL M r j := (h r j hp).2
/-! NUMBERS -/
theorem nI_mul (a b : Nat) : nI a * nI b = nI (a * b) := (Int32.ofNat_mul a b).symm
theorem nI_sub {a b : Nat} (h : b ≤ a) : nI a - nI b = nI (a - b) := (Int32.ofNat_sub a b h).symm
theorem nI_div {a b : Nat} (ha : a < 2 ^ 31) (hb : b < 2 ^ 31) : nI a / nI b = nI (a / b) := (Int32.ofNat_div ha hb).symm
def md (x n : Int32) : Int32 := x - x / n * n
theorem nI_md {a b : Nat} (ha : a < 2 ^ 31) (hb : b < 2 ^ 31) : md (nI a) (nI b) = nI (a % b) := by
  unfold md
  have h := Nat.div_add_mod a b
  rw [Nat.mul_comm] at h
  rw [nI_div ha hb, nI_mul, nI_sub (by omega)]
  congr 1
  omega
theorem md_ix {x n : Int32} {m : Nat} (hn : n = nI m) (hm : m < 2 ^ 31) (hx : ix x < 2 ^ 31) : ix (md x n) = ix x % m := by
  subst hn
  rw [← n_ix x, nI_md hx hm, ix_n (by have := Nat.mod_le (ix x) m; omega), ix_n (by omega)]
theorem ix_add {x y : Int32} (h : ix x + ix y < 4294967296) : ix (x + y) = ix x + ix y := by
  rw [← n_ix x, ← n_ix y, nI_add, ix_n h, ix_n (by omega), ix_n (by omega)]
theorem ix_mul {x y : Int32} (h : ix x * ix y < 4294967296) : ix (x * y) = ix x * ix y := by
  have h1 : ix x < 4294967296 := x.toBitVec.isLt
  have h2 : ix y < 4294967296 := y.toBitVec.isLt
  rw [← n_ix x, ← n_ix y, nI_mul, ix_n h, ix_n h1, ix_n h2]
theorem ix_15 (x : Int32) : ix (x &&& 15) < 16 := by
  rw [pk_and x 4 rfl, ix_n (by omega)]
  omega
theorem ix_leI {x y : Int32} (hx : ix x < 2 ^ 31) (hy : ix y < 2 ^ 31) : x ≤ y ↔ ix x ≤ ix y := by
  rw [← n_ix x, ← n_ix y, nI_leI hx hy, ix_n (by omega), ix_n (by omega)]
theorem ix_ltI {x y : Int32} (hx : ix x < 2 ^ 31) (hy : ix y < 2 ^ 31) : x < y ↔ ix x < ix y := by
  rw [← n_ix x, ← n_ix y, nI_ltI hx hy, ix_n (by omega), ix_n (by omega)]
