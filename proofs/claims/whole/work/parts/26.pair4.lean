section PAIRS
variable {b : Bool} {M : M2}
theorem INV_fed (hI : INV b M) {w v : Int32} (hw : ix w < 10) : INV b (sI (sI (sI (sI M 5 1 w) 33 4 v) 68 1 w) 98 4 v) := by
  obtain ⟨hS, hH, hV, hSc, hL, hC, hA, hSh, hT, hLw⟩ := id hI
  have A : ∀ q : Nat → Nat → Bool, q 5 1 = false → q 33 4 = false → q 68 1 = false → q 98 4 = false → agr q M (sI (sI (sI (sI M 5 1 w) 33 4 v) 68 1 w) 98 4 v) :=
    fun q h1 h2 h3 h4 => agr_sI h4 (agr_sI h3 (agr_sI h2 (agr_sI h1 (agr_r M))))
  refine ⟨StatW_a (A _ rfl rfl rfl rfl) hS, ?_, VilR_a (A _ rfl rfl rfl rfl) hV, SchR_a (A _ rfl rfl rfl rfl) hSc, ?_, ChgR_a (A _ rfl rfl rfl rfl) hC, ActR_a (A _ rfl rfl rfl rfl) hA, ShfR_a (A _ rfl rfl rfl rfl) hSh, TapR_a (A _ rfl rfl rfl rfl) hT, LawR_a (A _ (by cases b <;> rfl) (by cases b <;> rfl) (by cases b <;> rfl) (by cases b <;> rfl)) hLw⟩
  · refine ⟨?_, ?_⟩
    · intro j hj
      have q := hH.1 j hj
      by_cases hjc : j = 1
      · subst hjc
        simp [gI_if]
        exact hw
      · simp [gI_if, hjc]
        exact q
    · intro j hj
      have q := hH.2 j hj
      by_cases hjc : j = 1
      · subst hjc
        simp [gI_if]
      · simp [gI_if, hjc]
        exact q
  · refine ⟨?_, hL.2.1, hL.2.2.1, hL.2.2.2.1, hL.2.2.2.2⟩
    intro j hj
    have q := hL.1 j hj
    by_cases hjc : j = 4
    · subst hjc
      simp [gI_if]
    · simp [gI_if, hjc]
      exact q
theorem sub_toInt {x y : Int32} (h1 : -2147483648 ≤ x.toInt - y.toInt) (h2 : x.toInt - y.toInt < 2147483648) : (x - y).toInt = x.toInt - y.toInt := by
  rw [Int32.toInt_sub]
  exact Int.bmod_eq_of_le (by omega) (by omega)
theorem add_toInt {x y : Int32} (h1 : -2147483648 ≤ x.toInt + y.toInt) (h2 : x.toInt + y.toInt < 2147483648) : (x + y).toInt = x.toInt + y.toInt := by
  rw [Int32.toInt_add]
  exact Int.bmod_eq_of_le (by omega) (by omega)
theorem P_fed (hI : INV b M) {x1 : Int32} : PAIR b M 148 274 [.ref 4, .int x1] [.ref 67, .int x1] := by
  obtain ⟨hS, hH, hV, hSc, hL, hC, hA, hSh, hT, hLw⟩ := id hI
  have h1 : ix (gI M 5 1) < 10 := hH.1 1 (by decide)
  have e68 : gI M 68 1 = gI M 5 1 := hH.2 1 (by decide)
  have e98 : gI M 98 4 = gI M 33 4 := hL.1 4 (by decide)
  have a1 := ix_t (gI M 5 1)
  have a2 := ix_t x1
  intro d hd f k
  obtain ⟨d, rfl⟩ := ex1 (e := 199) hd
  refine v148_0 (brK_ri (n := 9) rfl (by decide) (fun h => ?_) (fun h => ?_))
  · exact k _ M rfl (fun f2 k2 => v274_0 (c180n 9 (by omega) rfl (by decide) ⟨rfl, brK_b (fun _ => k2 M hI rfl) (fun q => ff h q)⟩))
  · have hx := rg_tt h
    rw [sF_eq]
    have hs : (gI M 5 1 - x1).toInt = (gI M 5 1).toInt - x1.toInt := sub_toInt (by omega) (by omega)
    have a3 := ix_t (gI M 5 1 - x1)
    by_cases hle : gI M 5 1 ≤ x1
    · have e : imx 0 (gI M 5 1 - x1) = 0 := by
        rw [i_le] at hle
        unfold imx
        rw [if_neg (fun q => by rw [i_lt, z_toInt, hs] at q; omega)]
      rw [e]
      refine k _ _ (by funext j; rfl) (fun f2 k2 => v274_0 (c180n 9 (by omega) rfl (by decide) ⟨rfl, brK_b (fun q => ff q h) (fun _ => brK_t ?_ ?_)⟩))
      · have : gI (sI (sI M 5 1 0) 33 4 (gI M 33 4 + 1)) 68 1 = gI M 5 1 := e68
        dsimp only
        rw [this]
        exact hle
      · have : gI (sI (sI M 5 1 0) 33 4 (gI M 33 4 + 1)) 98 4 = gI M 33 4 := e98
        dsimp only
        rw [this]
        exact k2 _ (INV_fed hI (by decide)) (by funext j; rfl)
    · have hlt := i_nle hle
      have e : imx 0 (gI M 5 1 - x1) = gI M 5 1 - x1 := by
        rw [i_lt] at hlt
        unfold imx
        rw [if_pos (by rw [i_lt, z_toInt, hs]; omega)]
      rw [e]
      refine k _ _ (by funext j; rfl) (fun f2 k2 => v274_0 (c180n 9 (by omega) rfl (by decide) ⟨rfl, brK_b (fun q => ff q h) (fun _ => brK_f ?_ ?_)⟩))
      · have : gI (sI (sI M 5 1 (gI M 5 1 - x1)) 33 4 (gI M 33 4 + 1)) 68 1 = gI M 5 1 := e68
        dsimp only
        rw [this]
        exact hle
      · have : gI (sI (sI M 5 1 (gI M 5 1 - x1)) 33 4 (gI M 33 4 + 1)) 98 4 = gI M 33 4 := e98
        have t : gI (sI (sI M 5 1 (gI M 5 1 - x1)) 33 4 (gI M 33 4 + 1)) 68 1 = gI M 5 1 := e68
        dsimp only
        rw [this, t]
        refine k2 _ (INV_fed hI ?_) (by funext j; rfl)
        rw [i_lt] at hlt
        omega
/-- all else stays where him, the village's rows, the schools' and the changes alone are touched: for the ledger -/
theorem INV_led (hI : INV b M) {M' : M2} (ha : ∀ q : Nat → Nat → Bool, (∀ j, q 5 j = false) → (∀ j, q 68 j = false) → (∀ j, q 33 j = false) → (∀ j, q 34 j = false) → q 67 54 = false → (∀ j, q 98 j = false) → (∀ j, q 99 j = false) → (∀ j, q 100 j = false) → agr q M M') (hH' : HimR M' M') (hL' : LedR M' M') : INV b M' := by
  obtain ⟨hS, hH, hV, hSc, hL, hC, hA, hSh, hT, hLw⟩ := id hI
  exact ⟨StatW_a (ha _ (fun _ => rfl) (fun _ => rfl) (fun _ => rfl) (fun _ => rfl) rfl (fun _ => rfl) (fun _ => rfl) (fun _ => rfl)) hS, hH', VilR_a (ha _ (fun _ => rfl) (fun _ => rfl) (fun _ => rfl) (fun _ => rfl) rfl (fun _ => rfl) (fun _ => rfl) (fun _ => rfl)) hV, SchR_a (ha _ (fun _ => rfl) (fun _ => rfl) (fun _ => rfl) (fun _ => rfl) rfl (fun _ => rfl) (fun _ => rfl) (fun _ => rfl)) hSc, hL', ChgR_a (ha _ (fun _ => rfl) (fun _ => rfl) (fun _ => rfl) (fun _ => rfl) rfl (fun _ => rfl) (fun _ => rfl) (fun _ => rfl)) hC, ActR_a (ha _ (fun _ => rfl) (fun _ => rfl) (fun _ => rfl) (fun _ => rfl) rfl (fun _ => rfl) (fun _ => rfl) (fun _ => rfl)) hA, ShfR_a (ha _ (fun _ => rfl) (fun _ => rfl) (fun _ => rfl) (fun _ => rfl) rfl (fun _ => rfl) (fun _ => rfl) (fun _ => rfl)) hSh, TapR_a (ha _ (fun _ => rfl) (fun _ => rfl) (fun _ => rfl) (fun _ => rfl) rfl (fun _ => rfl) (fun _ => rfl) (fun _ => rfl)) hT, LawR_a (ha _ (fun _ => by cases b <;> rfl) (fun _ => by cases b <;> rfl) (fun _ => by cases b <;> rfl) (fun _ => by cases b <;> rfl) (by cases b <;> rfl) (fun _ => by cases b <;> rfl) (fun _ => by cases b <;> rfl) (fun _ => by cases b <;> rfl)) hLw⟩
/-- a row of an array copied into another, by a loop: what it gives -/
def cpy (M : M2) (s t n : Nat) : M2 := (fun a j => if a = t ∧ j < n then M.1 s j else M.1 a j, M.2)
theorem cpy_0 (M : M2) (s t : Nat) : cpy M s t 0 = M := by
  unfold cpy
  have : (fun a j => if a = t ∧ j < 0 then M.1 s j else M.1 a j) = M.1 := by
    funext a j
    exact if_neg (fun q => absurd q.2 (by omega))
  rw [this]
theorem cpy_s (M : M2) {s t n : Nat} (h : s ≠ t) : sI (cpy M s t n) t n (gI (cpy M s t n) s n) = cpy M s t (n + 1) := by
  have e : gI (cpy M s t n) s n = gI M s n := if_neg (fun q => h q.1)
  rw [e]
  unfold sI cpy
  congr 1
  funext a j
  show (if a = t ∧ j = n then gI M s n else if a = t ∧ j < n then M.1 s j else M.1 a j) = if a = t ∧ j < n + 1 then M.1 s j else M.1 a j
  by_cases h1 : a = t
  · by_cases h2 : j = n
    · rw [if_pos ⟨h1, h2⟩, if_pos ⟨h1, by omega⟩, h2]; rfl
    · rw [if_neg (fun q => h2 q.2)]
      by_cases h3 : j < n
      · rw [if_pos ⟨h1, h3⟩, if_pos ⟨h1, by omega⟩]
      · rw [if_neg (fun q => h3 q.2), if_neg (fun q => absurd q.2 (by omega))]
  · rw [if_neg (fun q => h1 q.1), if_neg (fun q => h1 q.1), if_neg (fun q => h1 q.1)]
theorem gI_cpy (M : M2) (s t n a j : Nat) : gI (cpy M s t n) a j = if a = t ∧ j < n then gI M s j else gI M a j := rfl
theorem agr_cpy {p : Nat → Nat → Bool} {M M' : M2} {s t n : Nat} (hp : ∀ j, p t j = false) (h : agr p M M') : agr p M (cpy M' s t n) := by
  intro a j q
  have e : ¬ (a = t ∧ j < n) := by
    intro e
    rw [e.1, hp] at q
    exact absurd q (by decide)
  refine ⟨?_, (h a j q).2⟩
  rw [gI_cpy, if_neg e]
  exact (h a j q).1
/-- a counter that has not come to its end -/
theorem cnt_lt {n m : Nat} {c : Int32} (hc : c = nI m) (hm : m < 2147483648) (hn : n ≤ m) : (c ≤ nI n ↔ n = m) := by
  have h1 := nI_toInt hm
  have h2 := nI_toInt (n := n) (by omega)
  subst hc
  rw [i_le]
  omega
theorem l276_32 {d : Nat} {N : M2} {Q : QT} : ∀ m, ∀ n, n + m = 5 → Q (some (.int (gI N 98 0))) (FR b, cpy N 98 100 5) → WP (d + 1) 107 276 32 [.ref 67, .int (nI n)] [] 107 (FR b, cpy N 98 100 n) Q := by
  intro m
  induction m with
  | zero =>
    intro n hn k
    have : n = 5 := by omega
    subst this
    exact v276_32 (brK_t (by decide) k)
  | succ m ih =>
    intro n hn k
    refine v276_32 (brK_f (fun q => ?_) (iK_i (by rw [ix_n (by omega)]; omega) (iK_i (by rw [ix_n (by omega)]; omega) ?_)))
    · have := (cnt_lt (n := n) (m := 5) rfl (by decide) (by omega)).mp q
      omega
    · rw [ix_n (by omega), cpy_s N (by decide), ← nI_succ]
      exact ih (n + 1) (by omega) k
theorem l276_7 {d : Nat} {N : M2} {Q : QT} : ∀ m, ∀ n, n + m = 4 → Q (some (.int (gI N 98 0))) (FR b, cpy (cpy N 68 99 4) 98 100 5) → WP (d + 1) 107 276 7 [.ref 67, .int (nI n)] [] 107 (FR b, cpy N 68 99 n) Q := by
  intro m
  induction m with
  | zero =>
    intro n hn k
    have : n = 4 := by omega
    subst this
    refine v276_7 (brK_t (by decide) ?_)
    have := l276_32 (b := b) (d := d) (N := cpy N 68 99 4) (Q := Q) 5 0 rfl k
    rw [cpy_0] at this
    exact this
  | succ m ih =>
    intro n hn k
    refine v276_7 (brK_f (fun q => ?_) (iK_i (by rw [ix_n (by omega)]; omega) (iK_i (by rw [ix_n (by omega)]; omega) ?_)))
    · have := (cnt_lt (n := n) (m := 4) rfl (by decide) (by omega)).mp q
      omega
    · rw [ix_n (by omega), cpy_s N (by decide), ← nI_succ]
      exact ih (n + 1) (by omega) k
end PAIRS
