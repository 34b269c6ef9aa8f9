/-! RANGES -/
theorem ex1 {d e : Nat} (h : e + 1 ≤ d) : ∃ c, d = c + 1 := ⟨d - 1, by omega⟩
theorem z_toInt : (0 : Int32).toInt = 0 := rfl
/-- below 0, or not below n: A; else B -/
theorem brK_rg {x c : Int32} {n : Nat} (hc : c = nI n) (hn : n < 2147483648) {A B : Prop} (ha : rg x n = false → A) (hb : rg x n = true → B) : brK (x < 0) A (brK (c ≤ x) A B) := by
  have h1 := nI_toInt hn
  have h2 := ix_t x
  subst hc
  refine ⟨fun h => ha (rg_f.mpr ?_), fun h => ⟨fun h3 => ha (rg_f.mpr ?_), fun h3 => hb (rg_t.mpr ?_)⟩⟩
  · rw [i_lt, z_toInt] at h; omega
  · rw [i_lt, z_toInt] at h; rw [i_le] at h3; omega
  · rw [i_lt, z_toInt] at h; rw [i_le] at h3; omega
theorem brK_rh {x c : Int32} {n : Nat} (hc : c = nI n) (hn : n < 2147483647) {A B : Prop} (ha : rg x (n + 1) = false → A) (hb : rg x (n + 1) = true → B) : brK (x < 0) A (brK (c < x) A B) := by
  have h1 := nI_toInt (n := n) (by omega)
  have h2 := ix_t x
  subst hc
  refine ⟨fun h => ha (rg_f.mpr ?_), fun h => ⟨fun h3 => ha (rg_f.mpr ?_), fun h3 => hb (rg_t.mpr ?_)⟩⟩
  · rw [i_lt, z_toInt] at h; omega
  · rw [i_lt, z_toInt] at h; rw [i_lt] at h3; omega
  · rw [i_lt, z_toInt] at h; rw [i_lt] at h3; omega
/-- the same, written the other way -/
theorem brK_ri {x c : Int32} {n : Nat} (hc : c = nI n) (hn : n < 2147483647) {A B : Prop} (ha : rg x (n + 1) = false → A) (hb : rg x (n + 1) = true → B) : brK (x < 0) A (brK (x ≤ c) B A) := by
  have h1 := nI_toInt (n := n) (by omega)
  have h2 := ix_t x
  subst hc
  refine ⟨fun h => ha (rg_f.mpr ?_), fun h => ⟨fun h3 => hb (rg_t.mpr ?_), fun h3 => ha (rg_f.mpr ?_)⟩⟩
  · rw [i_lt, z_toInt] at h; omega
  · rw [i_lt, z_toInt] at h; rw [i_le] at h3; omega
  · rw [i_lt, z_toInt] at h; rw [i_le] at h3; omega
theorem brK_rj {x c : Int32} {n : Nat} (hc : c = nI n) (hn : n < 2147483648) {A B : Prop} (ha : rg x n = false → A) (hb : rg x n = true → B) : brK (x < 0) A (brK (x < c) B A) := by
  have h1 := nI_toInt hn
  have h2 := ix_t x
  subst hc
  refine ⟨fun h => ha (rg_f.mpr ?_), fun h => ⟨fun h3 => hb (rg_t.mpr ?_), fun h3 => ha (rg_f.mpr ?_)⟩⟩
  · rw [i_lt, z_toInt] at h; omega
  · rw [i_lt, z_toInt] at h; rw [i_lt] at h3; omega
  · rw [i_lt, z_toInt] at h; rw [i_lt] at h3; omega
/-- a count c: from 0 on below c -/
theorem brK_rc {x c : Int32} (hc : 0 ≤ c.toInt) {A B : Prop} (ha : rg x (ix c) = false → A) (hb : rg x (ix c) = true → B) : brK (x < 0) A (brK (c ≤ x) A B) := by
  have h3 := ix_t c
  exact brK_rg (n_ix c).symm (by omega) ha hb
theorem rg_tt {x : Int32} {n : Nat} (h : rg x n = true) : ix x < n := rg_t.mp h
theorem f_eq {p : Bool} {v : Int32} {f : Int32 → Mm → Prop} {M : Mm} (h : bI p = v) (k : f (bI p) M) : f v M := by subst h; exact k
/-! LEAVES OF THE CLASS -/
/-- at: an int of a row, 0 where there is none -/
def atV (M : M2) (r : Nat) (i : Int32) : Int32 := bif rg i (ln r) then gI M r (ix i) else 0
section LEAF
variable {d : Nat} {b : Bool} {M : M2} {f : Int32 → Mm → Prop} {g : Mm → Prop}
theorem c15 {r : Nat} {i : Int32} (hd : 1 ≤ d) (hr : r < 107) (hk : kd r = 20 ∨ kd r = 26) (k : f (atV M r i) (FR b, M)) : WP d 107 15 0 [.ref r, .int i] [] 107 (FR b, M) (rI f) := by
  obtain ⟨d, rfl⟩ := ex1 hd
  have h25 : Nat.beq (kd r) 25 = false := by rcases hk with h | h <;> rw [h] <;> rfl
  have h20 : 20 ≤ kd r := by rcases hk with h | h <;> rw [h] <;> decide
  have hl : lenI M r = nI (ln r) := by unfold lenI; rw [h25]; rfl
  have hn : lenN M r = ln r := by unfold lenN; rw [h25]; rfl
  have hx : ldX M r i = gI M r (ix i) := by unfold ldX; rw [h25]; rfl
  have hz := ln_lt r
  refine v15_0 ?_
  rw [hl, hn, hx]
  have hh := ix_t i
  have h1 := nI_toInt (n := ln r) (by omega)
  refine ⟨fun h => ?_, fun h => rdN_i hr h20 ⟨fun h2 => ?_, fun h2 => rdI_i hr (hk.elim Or.inl (fun h => Or.inr (Or.inl h))) (iK_i ?_ ?_)⟩⟩
  · rw [i_lt, z_toInt] at h
    rw [show atV M r i = 0 by unfold atV; rw [rg_f.mpr (by omega)]; rfl] at k
    exact k
  · rw [i_lt, z_toInt] at h
    rw [i_le] at h2
    rw [show atV M r i = 0 by unfold atV; rw [rg_f.mpr (by omega)]; rfl] at k
    exact k
  · rw [i_lt, z_toInt] at h
    rw [i_le] at h2
    omega
  · rw [i_lt, z_toInt] at h
    rw [i_le] at h2
    rw [show atV M r i = gI M r (ix i) by unfold atV; rw [rg_t.mpr (by omega)]; rfl] at k
    exact k
/-- isRemark, isCourse -/
theorem c59 {v : Int32} (hd : 1 ≤ d) (k : f (bI (rg v 10)) (FR b, M)) : WP d 107 59 0 [.int v] [] 107 (FR b, M) (rI f) := by
  obtain ⟨d, rfl⟩ := ex1 hd
  exact v59_0 (brK_rg (n := 10) rfl (by decide) (fun h => by rw [h] at k; exact k) (fun h => by rw [h] at k; exact k))
theorem c65 {v : Int32} (hd : 1 ≤ d) (k : f (bI (rg v 201)) (FR b, M)) : WP d 107 65 0 [.int v] [] 107 (FR b, M) (rI f) := by
  obtain ⟨d, rfl⟩ := ex1 hd
  exact v65_0 (brK_rh (n := 200) rfl (by decide) (fun h => by rw [h] at k; exact k) (fun h => by rw [h] at k; exact k))
theorem rg2 {v : Int32} : rg v 2 = true ↔ v = 0 ∨ v = 1 := by
  rw [rg_t]
  have := ix_t v
  constructor
  · intro h
    have : v.toInt = 0 ∨ v.toInt = 1 := by omega
    rcases this with h | h
    · exact Or.inl (i_eq.mpr h)
    · exact Or.inr (i_eq.mpr h)
  · rintro (h | h) <;> subst h <;> decide
/-- isEither -/
theorem c79 {v : Int32} (hd : 1 ≤ d) (k : f (bI (rg v 2)) (FR b, M)) : WP d 107 79 0 [.int v] [] 107 (FR b, M) (rI f) := by
  obtain ⟨d, rfl⟩ := ex1 hd
  have h := @rg2 v
  refine v79_0 ⟨fun h1 => ?_, fun h1 => ⟨fun h2 => ?_, fun h2 => ?_⟩⟩
  · rw [h.mpr (Or.inl h1)] at k; exact k
  · rw [h.mpr (Or.inr h2)] at k; exact k
  · rw [show rg v 2 = false by cases hh : rg v 2 with
      | false => rfl
      | true => rcases h.mp hh with h | h <;> contradiction] at k
    exact k
/-- has, of the schools and of the stalls -/
theorem c26 {v : Int32} (hd : 1 ≤ d) (hc : 0 ≤ (gI M 26 0).toInt) (k : f (bI (rg v (ix (gI M 26 0)))) (FR b, M)) : WP d 107 26 0 [.ref 26, .int v] [] 107 (FR b, M) (rI f) := by
  obtain ⟨d, rfl⟩ := ex1 hd
  exact v26_0 (brK_rc hc (fun h => by rw [h] at k; exact k) (fun h => by rw [h] at k; exact k))
theorem c27 {v : Int32} (hd : 1 ≤ d) (hc : 0 ≤ (gI M 18 0).toInt) (k : f (bI (rg v (ix (gI M 18 0)))) (FR b, M)) : WP d 107 27 0 [.ref 18, .int v] [] 107 (FR b, M) (rI f) := by
  obtain ⟨d, rfl⟩ := ex1 hd
  exact v27_0 (brK_rc hc (fun h => by rw [h] at k; exact k) (fun h => by rw [h] at k; exact k))
/-- the cell of a shelf -/
def shC (i : Nat) : Nat := 55 + 2 * i
theorem FR53 : ∀ b, ∀ i, i < 6 → FR b 53 i = some (shC i) := by decide
theorem sh_kd : ∀ i, i < 6 → kd (shC i) = 9 ∧ shC i < 107 ∧ kd (shC i + 1) = 23 ∧ shC i + 1 < 107 ∧ ln (shC i + 1) = 60 := by decide
theorem FRs4 : ∀ b, ∀ i, i < 6 → FR b (shC i) 4 = some (shC i + 1) := by decide
/-- shelfAt -/
theorem c18 {v : Int32} {h : Nat → Mm → Prop} (hd : 1 ≤ d) (k0 : rg v 6 = false → g (FR b, M)) (k1 : rg v 6 = true → h (shC (ix v)) (FR b, M)) : WP d 107 18 0 [.ref 4, .int v] [] 107 (FR b, M) (rA g h) := by
  obtain ⟨d, rfl⟩ := ex1 hd
  refine v18_0 (brK_rg (n := 6) rfl (by decide) (fun h => k0 h) (fun h => iK_i (rg_t.mp h) (rK_i (FR53 b _ (rg_t.mp h)) (k1 h))))
end LEAF
