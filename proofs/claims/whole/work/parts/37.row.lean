section PAIRS
variable {b : Bool} {M : M2}
/-- longs of a row cleared, from p on, n of them -/
def clr (M : M2) (r p n : Nat) : M2 := (M.1, fun a j => if a = r ∧ p ≤ j ∧ j < p + n then 0 else M.2 a j)
theorem gL_clr (M : M2) (r p n a j : Nat) : gL (clr M r p n) a j = if a = r ∧ p ≤ j ∧ j < p + n then 0 else gL M a j := rfl
theorem clr_0 (M : M2) (r p : Nat) : clr M r p 0 = M := by
  unfold clr
  have : (fun a j => if a = r ∧ p ≤ j ∧ j < p + 0 then 0 else M.2 a j) = M.2 := by
    funext a j
    exact if_neg (fun q => absurd q.2 (by omega))
  rw [this]
theorem clr_s (M : M2) (r p n : Nat) : sL (clr M r p n) r (p + n) 0 = clr M r p (n + 1) := by
  unfold sL clr
  congr 1
  funext a j
  show (if a = r ∧ j = p + n then 0 else if a = r ∧ p ≤ j ∧ j < p + n then 0 else M.2 a j) = if a = r ∧ p ≤ j ∧ j < p + (n + 1) then 0 else M.2 a j
  by_cases h1 : a = r ∧ j = p + n
  · rw [if_pos h1, if_pos ⟨h1.1, by omega, by omega⟩]
  · rw [if_neg h1]
    by_cases h2 : a = r ∧ p ≤ j ∧ j < p + n
    · rw [if_pos h2, if_pos ⟨h2.1, by omega, by omega⟩]
    · rw [if_neg h2, if_neg (fun q => by
        by_cases h3 : j = p + n
        · exact h1 ⟨q.1, h3⟩
        · exact h2 ⟨q.1, q.2.1, by omega⟩)]
theorem agr_clr {q : Nat → Nat → Bool} {A B : M2} {r p n : Nat} (hq : ∀ j, q r j = false) (h : agr q A B) : agr q A (clr B r p n) := by
  intro a j e
  have hn : ¬ (a = r ∧ p ≤ j ∧ j < p + n) := by
    intro z
    rw [z.1, hq] at e
    exact absurd e (by decide)
  refine ⟨(h a j e).1, ?_⟩
  rw [gL_clr, if_neg hn]
  exact (h a j e).2
theorem l168 {d : Nat} {N : M2} {g : Mm → Prop} {s : Nat} {u v : Value} (hs : s < 6) (hv : kl v = v) (k : g (FR b, clr N (shC s + 1) 0 60)) : ∀ m, ∀ n, n + m = 60 → WP (d + 1) 107 168 22 [.ref (shC s), u, v, .int (nI n)] [] 107 (FR b, clr N (shC s + 1) 0 n) (rV g) := by
  have hk := sh_kd s hs
  intro m
  induction m with
  | zero =>
    intro n hn
    have : n = 60 := by omega
    subst this
    have e : lenI (clr N (shC s + 1) 0 60) (shC s + 1) = 60 := by unfold lenI; rw [hk.2.2.1, hk.2.2.2.2]; rfl
    exact v168_22 (oK_i hk.2.1 hk.1 (rK_i (FRs4 b s hs) (rdN_i hk.2.2.2.1 (by rw [hk.2.2.1]; decide) (brK_t (by rw [e]; decide) k))))
  | succ m ih =>
    intro n hn
    have e : lenI (clr N (shC s + 1) 0 n) (shC s + 1) = 60 := by unfold lenI; rw [hk.2.2.1, hk.2.2.2.2]; rfl
    refine v168_22 (oK_i hk.2.1 hk.1 (rK_i (FRs4 b s hs) (rdN_i hk.2.2.2.1 (by rw [hk.2.2.1]; decide) (brK_f (fun q => ?_) (oK_i hk.2.1 hk.1 (rK_i (FRs4 b s hs) (oK_i hk.2.2.2.1 hk.2.2.1 (iK_i ?_ ?_))))))))
    · rw [e] at q
      have := (cnt_lt (n := n) (m := 60) rfl (by decide) (by omega)).mp q
      omega
    · rw [hk.2.2.2.2, ix_n (by omega)]; omega
    · rw [ix_n (by omega), hv, ← nI_succ]
      have := clr_s N (shC s + 1) 0 n
      rw [Nat.zero_add] at this
      rw [this]
      exact ih (n + 1) (by omega)
end PAIRS
