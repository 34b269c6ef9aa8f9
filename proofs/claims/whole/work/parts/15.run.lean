/-! RUNS OF SEVERAL STEPS, AND HOW CONDITIONS ARE MET -/
def runW (cut : Nat → Bool) (d nE mu : Nat) (Q : QT) : Nat → Nat → List Value → List Value → Nat → Mm → Prop
  | 0, pc, ls, st, n, M => WP d nE mu pc ls st n M Q
  | k + 1, pc, ls, st, n, M => bif cut pc then WP d nE mu pc ls st n M Q else stepW nE d n (rz mu) (codeOf mu pc) (runW cut d nE mu Q k) (fun d' nE' mu' ls' n' M' Q' => WP d' nE' mu' 0 ls' [] n' M' Q') Q ls st M
theorem runW_ok (cut : Nat → Bool) (d nE mu : Nat) (Q : QT) : ∀ (k pc : Nat) (ls st : List Value) (n : Nat) (M : Mm), runW cut d nE mu Q k pc ls st n M → WP d nE mu pc ls st n M Q := by
  intro k
  induction k with
  | zero => intro pc ls st n M h; exact h
  | succ k ih =>
    intro pc ls st n M h
    unfold runW at h
    cases hc : cut pc with
    | true => rw [hc] at h; exact h
    | false =>
      rw [hc] at h
      exact WP.step (stepW_mono ih (fun _ _ _ _ _ _ _ _ hq hc => hc.mono hq) (fun _ _ h => h) h)
theorem blk (k : Nat) (cut : Nat → Bool) {d nE mu pc : Nat} {ls st : List Value} {n : Nat} {M : Mm} {Q : QT} (h : stepW nE d n (rz mu) (codeOf mu pc) (runW cut d nE mu Q k) (fun d' nE' mu' ls' n' M' Q' => WP d' nE' mu' 0 ls' [] n' M' Q') Q ls st M) : WP d nE mu pc ls st n M Q :=
  WP.step (stepW_mono (runW_ok cut d nE mu Q k) (fun _ _ _ _ _ _ _ _ hq hc => hc.mono hq) (fun _ _ h => h) h)
theorem iK_i {i : Int32} {n : Nat} {P : Prop} (h : ix i < n) (p : P) : iK i n P := by
  unfold iK
  cases Nat.blt (ix i) n
  · exact ⟨h, p⟩
  · exact p
theorem nzK_i {y : Int32} {P : Prop} (h : y ≠ 0) (p : P) : nzK y P := by
  unfold nzK
  cases Nat.blt 0 (ix y)
  · exact ⟨h, p⟩
  · exact p
theorem oK_i {n r c : Nat} {P : Prop} (h : r < n) (h2 : kd r = c) (p : P) : oK n r c P := by
  unfold oK
  subst h2
  rw [show Nat.blt r n = true from Nat.ble_eq_true_of_le h, Nat.beq_refl]
  exact p
theorem rdI_i {n r : Nat} {P : Prop} (h : r < n) (h2 : kd r = 20 ∨ kd r = 26 ∨ kd r = 25) (p : P) : rdI n r P := by
  unfold rdI
  rw [show Nat.blt r n = true from Nat.ble_eq_true_of_le h]
  rcases h2 with h2 | h2 | h2 <;> rw [h2] <;> exact p
theorem rdN_i {n r : Nat} {P : Prop} (h : r < n) (h2 : 20 ≤ kd r) (p : P) : rdN n r P := by
  unfold rdN
  rw [show Nat.blt r n = true from Nat.ble_eq_true_of_le h, show Nat.ble 20 (kd r) = true from Nat.ble_eq_true_of_le h2]
  exact p
theorem rK_i {x : Option Nat} {a : Nat} {f : Nat → Prop} (h : x = some a) (p : f a) : rK x f := by subst h; exact p
theorem brK_t {c a b : Prop} (h : c) (p : a) : brK c a b := ⟨fun _ => p, fun q => absurd h q⟩
theorem brK_f {c a b : Prop} (h : ¬ c) (p : b) : brK c a b := ⟨fun q => absurd q h, fun _ => p⟩
