section PAIRS
variable {b : Bool} {M : M2}
def rowM (M : M2) (s : Nat) (o n : Int32) : M2 := clr (sI (sI (sI M (shC s) 0 2) (shC s) 2 o) (shC s) 3 n) (shC s + 1) 0 60
theorem c168 {d : Nat} {g : Mm → Prop} {s : Nat} {o n : Int32} (hd : 1 ≤ d) (hs : s < 6) (hn : n ≤ 60) (k : g (FR b, rowM M s o n)) : WP d 107 168 0 [.ref (shC s), .int o, .int n, U] [] 107 (FR b, M) (rV g) := by
  obtain ⟨d, rfl⟩ := ex1 hd
  have hk := sh_kd s hs
  have e : imn n 60 = n := by
    unfold imn
    rw [i_le] at hn
    rw [if_neg (fun q => by rw [i_lt] at q; omega)]
  refine v168_0 (oK_i hk.2.1 hk.1 (oK_i hk.2.1 hk.1 (oK_i hk.2.1 hk.1 ?_)))
  rw [e, sF_eq, sF_eq, sF_eq]
  have := l168 (b := b) (d := d) (N := sI (sI (sI M (shC s) 0 2) (shC s) 2 o) (shC s) 3 n) (g := g) (s := s) (u := .int o) (v := .int n) hs rfl k 60 0 rfl
  rw [clr_0] at this
  exact this
theorem l297 {d : Nat} {N : M2} {f : Int32 → Mm → Prop} {x : Int32} {u v : Value} (hx : ix x < 6) (hv : kl v = v) (k : f 1 (FR b, clr N 105 (60 * ix x) 60)) : ∀ m, ∀ n, n + m = 60 → WP (d + 1) 107 297 54 [.ref 67, .int x, u, v, .int (nI (60 * ix x + n))] [] 107 (FR b, clr N 105 (60 * ix x) n) (rI f) := by
  have e : 60 * x + 60 = nI (60 * ix x + 60) := by
    apply ix_inj
    rw [ix_at (n := 60) rfl (by rw [show ix 60 = 60 from rfl]; omega), ix_n (by omega)]
    rfl
  intro m
  induction m with
  | zero =>
    intro n hn
    have : n = 60 := by omega
    subst this
    exact v297_54 (brK_t (by rw [e, i_le]; exact Int.le_refl _) k)
  | succ m ih =>
    intro n hn
    refine v297_54 (brK_f (fun q => ?_) (iK_i (by rw [ix_n (by omega)]; omega) ?_))
    · rw [e] at q
      have := (cnt_lt (n := 60 * ix x + n) (m := 60 * ix x + 60) rfl (by omega) (by omega)).mp q
      omega
    · rw [ix_n (by omega), hv, ← nI_succ, clr_s]
      exact ih (n + 1) (by omega)
end PAIRS
