section PAIRS
variable {b : Bool} {M : M2}
/-- a row's elements moved one down, the first n -/
def shf (M : M2) (r n : Nat) : M2 := (fun a j => if a = r ∧ j < n then M.1 a (j + 1) else M.1 a j, M.2)
theorem gI_shf (M : M2) (r n a j : Nat) : gI (shf M r n) a j = if a = r ∧ j < n then gI M a (j + 1) else gI M a j := rfl
theorem shf_0 (M : M2) (r : Nat) : shf M r 0 = M := by
  unfold shf
  have : (fun a j => if a = r ∧ j < 0 then M.1 a (j + 1) else M.1 a j) = M.1 := by
    funext a j
    exact if_neg (fun q => absurd q.2 (by omega))
  rw [this]
theorem shf_s (M : M2) (r n : Nat) : sI (shf M r n) r n (gI (shf M r n) r (n + 1)) = shf M r (n + 1) := by
  have e : gI (shf M r n) r (n + 1) = gI M r (n + 1) := if_neg (fun q => absurd q.2 (by omega))
  rw [e]
  unfold sI shf
  congr 1
  funext a j
  show (if a = r ∧ j = n then gI M r (n + 1) else if a = r ∧ j < n then M.1 a (j + 1) else M.1 a j) = if a = r ∧ j < n + 1 then M.1 a (j + 1) else M.1 a j
  by_cases h1 : a = r
  · by_cases h2 : j = n
    · rw [if_pos ⟨h1, h2⟩, if_pos ⟨h1, by omega⟩, h2, h1]; rfl
    · rw [if_neg (fun q => h2 q.2)]
      by_cases h3 : j < n
      · rw [if_pos ⟨h1, h3⟩, if_pos ⟨h1, by omega⟩]
      · rw [if_neg (fun q => h3 q.2), if_neg (fun q => absurd q.2 (by omega))]
  · rw [if_neg (fun q => h1 q.1), if_neg (fun q => h1 q.1), if_neg (fun q => h1 q.1)]
theorem agr_shf {p : Nat → Nat → Bool} {M M' : M2} {r n : Nat} (hp : ∀ j, p r j = false) (h : agr p M M') : agr p M (shf M' r n) := by
  intro a j q
  have e : ¬ (a = r ∧ j < n) := by
    intro e
    rw [e.1, hp] at q
    exact absurd q (by decide)
  refine ⟨?_, (h a j q).2⟩
  rw [gI_shf, if_neg e]
  exact (h a j q).1
/-- forgetFirst -/
theorem l34 {d r : Nat} {N : M2} {Q : QT} (hr : r < 107) (hk : kd r = 20) (hl : ln r = 40) : ∀ m, ∀ n, n + m = 39 → Q none (FR b, shf N r 39) → WP (d + 1) 107 34 2 [.ref r, .int (nI (n + 1))] [] 107 (FR b, shf N r n) Q := by
  have h25 : Nat.beq (kd r) 25 = false := by rw [hk]; rfl
  intro m
  induction m with
  | zero =>
    intro n hn k
    have : n = 39 := by omega
    subst this
    have e : lenI (shf N r 39) r = 40 := by unfold lenI; rw [h25, hl]; rfl
    exact v34_2 (rdN_i hr (by rw [hk]; decide) (brK_t (by rw [e]; decide) k))
  | succ m ih =>
    intro n hn k
    have e : lenI (shf N r n) r = nI 40 := by unfold lenI; rw [h25, hl]; rfl
    have en : lenN (shf N r n) r = 40 := by unfold lenN; rw [h25]; exact hl
    have ex : ldX (shf N r n) r (nI (n + 1)) = gI (shf N r n) r (n + 1) := by unfold ldX; rw [h25, ix_n (by omega)]; rfl
    have ep : ix (nI (n + 1) - 1) = n := by rw [ix_pred (by rw [ix_n (by omega)]; omega), ix_n (by omega)]; omega
    refine v34_2 (rdN_i hr (by rw [hk]; decide) (brK_f (fun q => ?_) (rdI_i hr (Or.inl hk) (iK_i ?_ (oK_i hr hk (iK_i ?_ ?_))))))
    · rw [e] at q
      have := (cnt_lt (n := n + 1) (m := 40) rfl (by decide) (by omega)).mp q
      omega
    · rw [en, ix_n (by omega)]; omega
    · rw [ep, hl]; omega
    · rw [ex, ep, shf_s, ← nI_succ]
      exact ih (n + 1) (by omega) k
theorem c34 {d r : Nat} {N : M2} {g : Mm → Prop} (hd : 1 ≤ d) (hr : r < 107) (hk : kd r = 20) (hl : ln r = 40) (k : g (FR b, shf N r 39)) : WP d 107 34 0 [.ref r, U] [] 107 (FR b, N) (rV g) := by
  obtain ⟨d, rfl⟩ := ex1 hd
  refine v34_0 ?_
  have := l34 (b := b) (d := d) (N := N) (Q := rV g) hr hk hl 39 0 rfl k
  rw [shf_0] at this
  exact this
/-- the reference's four rows at once -/
def sh4 (M : M2) (n : Nat) : M2 := (fun a j => if (74 ≤ a ∧ a ≤ 77) ∧ j < n then M.1 a (j + 1) else M.1 a j, M.2)
theorem gI_sh4 (M : M2) (n a j : Nat) : gI (sh4 M n) a j = if (74 ≤ a ∧ a ≤ 77) ∧ j < n then gI M a (j + 1) else gI M a j := rfl
theorem sh4_0 (M : M2) : sh4 M 0 = M := by
  unfold sh4
  have : (fun a j => if (74 ≤ a ∧ a ≤ 77) ∧ j < 0 then M.1 a (j + 1) else M.1 a j) = M.1 := by
    funext a j
    exact if_neg (fun q => absurd q.2 (by omega))
  rw [this]
theorem sh4_s (M : M2) (n : Nat) : sI (sI (sI (sI (sh4 M n) 74 n (gI M 74 (n + 1))) 75 n (gI M 75 (n + 1))) 76 n (gI M 76 (n + 1))) 77 n (gI M 77 (n + 1)) = sh4 M (n + 1) := by
  have : ∀ a j, gI (sI (sI (sI (sI (sh4 M n) 74 n (gI M 74 (n + 1))) 75 n (gI M 75 (n + 1))) 76 n (gI M 76 (n + 1))) 77 n (gI M 77 (n + 1))) a j = gI (sh4 M (n + 1)) a j := by
    intro a j
    simp only [gI_if, gI_sh4]
    by_cases h2 : j = n
    · subst h2
      by_cases h7 : a = 77
      · subst h7; simp
      · by_cases h6 : a = 76
        · subst h6; simp
        · by_cases h5 : a = 75
          · subst h5; simp
          · by_cases h4 : a = 74
            · subst h4; simp
            · rw [if_neg (fun q => h7 q.1), if_neg (fun q => h6 q.1), if_neg (fun q => h5 q.1), if_neg (fun q => h4 q.1), if_neg (fun q => by omega), if_neg (fun q => by omega)]
    · rw [if_neg (fun q => h2 q.2), if_neg (fun q => h2 q.2), if_neg (fun q => h2 q.2), if_neg (fun q => h2 q.2)]
      by_cases h3 : (74 ≤ a ∧ a ≤ 77) ∧ j < n
      · rw [if_pos h3, if_pos ⟨h3.1, by omega⟩]
      · rw [if_neg h3, if_neg (fun q => h3 ⟨q.1, by omega⟩)]
  have e1 : (sI (sI (sI (sI (sh4 M n) 74 n (gI M 74 (n + 1))) 75 n (gI M 75 (n + 1))) 76 n (gI M 76 (n + 1))) 77 n (gI M 77 (n + 1))).1 = (sh4 M (n + 1)).1 := by
    funext a j
    exact this a j
  exact Prod.ext e1 rfl
theorem agr_sh4 {p : Nat → Nat → Bool} {M M' : M2} {n : Nat} (h4 : ∀ j, p 74 j = false) (h5 : ∀ j, p 75 j = false) (h6 : ∀ j, p 76 j = false) (h7 : ∀ j, p 77 j = false) (h : agr p M M') : agr p M (sh4 M' n) := by
  intro a j q
  have e : ¬ ((74 ≤ a ∧ a ≤ 77) ∧ j < n) := by
    intro e
    have : a = 74 ∨ a = 75 ∨ a = 76 ∨ a = 77 := by omega
    rcases this with h | h | h | h <;> subst h
    · rw [h4] at q; exact absurd q (by decide)
    · rw [h5] at q; exact absurd q (by decide)
    · rw [h6] at q; exact absurd q (by decide)
    · rw [h7] at q; exact absurd q (by decide)
  refine ⟨?_, (h a j q).2⟩
  rw [gI_sh4, if_neg e]
  exact (h a j q).1
theorem l194 {d : Nat} {N : M2} {Q : QT} {w n v s : Int32} : ∀ m, ∀ i, i + m = 39 → WP (d + 1) 107 194 121 [.ref 67, .int w, .int n, .int v, .int s, .int 40] [] 107 (FR b, sI (sh4 N 39) 67 9 (gI N 67 9 - 1)) Q → WP (d + 1) 107 194 34 [.ref 67, .int w, .int n, .int v, .int s, .int (nI (i + 1))] [] 107 (FR b, sh4 N i) Q := by
  intro m
  induction m with
  | zero =>
    intro i hi k
    have : i = 39 := by omega
    subst this
    exact v194_34 (brK_t (by decide) k)
  | succ m ih =>
    intro i hi k
    have e1 : ix (nI (i + 1)) = i + 1 := ix_n (by omega)
    have ep : ix (nI (i + 1) - 1) = i := by rw [ix_pred (by rw [e1]; omega), e1]; omega
    have hx : ix (nI (i + 1)) < 40 := by omega
    have hy : ix (nI (i + 1) - 1) < 40 := by omega
    refine v194_34 (brK_f (fun q => ?_) (iK_i hx (iK_i hy (iK_i hx (iK_i hy (iK_i hx (iK_i hy (iK_i hx (iK_i hy ?_)))))))))
    · have := (cnt_lt (n := i + 1) (m := 40) rfl (by decide) (by omega)).mp q
      omega
    · rw [e1, ep, ← nI_succ]
      have a : ∀ r, 74 ≤ r → gI (sh4 N i) r (i + 1) = gI N r (i + 1) := fun r _ => if_neg (fun q => absurd q.2 (by omega))
      rw [a 74 (by decide), a 75 (by decide), a 76 (by decide), a 77 (by decide), sh4_s]
      exact ih (i + 1) (by omega) k
/-- the rows of the changes -/
def RW (M : M2) : Prop := ∀ j, j < 40 → (ix (gI M 37 j) < 11 ∧ ix (gI M 36 j) < lnW (ix (gI M 37 j)) ∧ ix (gI M 38 j) < GR (ix (gI M 37 j)) ∧ ix (gI M 39 j) < GR (ix (gI M 37 j))) ∧ gI M 74 j = gI M 37 j ∧ gI M 75 j = gI M 36 j ∧ gI M 76 j = gI M 38 j ∧ gI M 77 j = gI M 39 j
/-- a change noted: class, then reference -/
def ntC (M : M2) (x n w s v : Int32) : M2 := sI (sI (sI (sI (sI (sI M 36 (ix x) n) 37 (ix x) w) 38 (ix x) s) 39 (ix x) v) 35 0 (x + 1)) 35 1 (x + 1)
def ntM (M : M2) (x n w s v : Int32) : M2 := sI (sI (sI (sI (sI M 74 (ix x) w) 75 (ix x) n) 76 (ix x) s) 77 (ix x) v) 67 9 (x + 1)
theorem CHG_A {x n w s v : Int32} (hx : ix x < 40) (hR : RW M) (hw : ix w < 11) (hn : ix n < lnW (ix w)) (hs : ix s < GR (ix w)) (hv : ix v < GR (ix w)) : ChgR (ntM (sI (ntC M x n w s v) 67 10 0) x n w s v) (ntM (sI (ntC M x n w s v) 67 10 0) x n w s v) := by
  have h1 := ix_succ (v := x) (by omega)
  refine ⟨?_, ?_, ?_, ?_, ?_⟩
  · show ix (x + 1) ≤ 40
    omega
  · exact Nat.le_refl _
  · rfl
  · exact (sub_z.mpr rfl).symm
  · intro j hj
    have q := hR j hj
    unfold ntM ntC
    by_cases hjc : j = ix x
    · subst hjc
      simp [gI_if]
      exact ⟨hw, hn, hs, hv⟩
    · simp [gI_if, hjc]
      exact q
theorem CHG_B {n w s v : Int32} (hR : RW M) (hw : ix w < 11) (hn : ix n < lnW (ix w)) (hs : ix s < GR (ix w)) (hv : ix v < GR (ix w)) : ChgR (ntM (sI (sh4 (sI (ntC (sI (shf (shf (shf (shf M 36 39) 37 39) 38 39) 39 39) 35 0 39) 39 n w s v) 67 10 0) 39) 67 9 39) 39 n w s v) (ntM (sI (sh4 (sI (ntC (sI (shf (shf (shf (shf M 36 39) 37 39) 38 39) 39 39) 35 0 39) 39 n w s v) 67 10 0) 39) 67 9 39) 39 n w s v) := by
  refine ⟨(show ix ((39 : Int32) + 1) ≤ 40 by decide), Nat.le_refl _, rfl, (sub_z.mpr rfl).symm, ?_⟩
  intro j hj
  unfold ntM ntC
  rw [show ix 39 = 39 from rfl]
  by_cases hjc : j = 39
  · subst hjc
    simp [gI_if, gI_sh4, gI_shf]
    exact ⟨hw, hn, hs, hv⟩
  · have q := hR (j + 1) (by omega)
    have hlt : j < 39 := by omega
    by_cases h38 : j = 38
    · subst h38
      simp [gI_if, gI_sh4, gI_shf]
      exact q
    · have : ¬ j + 1 = 39 := by omega
      simp [gI_if, gI_sh4, gI_shf, hjc, hlt, this]
      exact q
end PAIRS
