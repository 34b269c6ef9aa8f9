/-! PLANS: A PURE PICTURE -/
def sK (b : Bool) (S : M2) (k s r : Nat) : Nat := ix (sayV b S (nI (s / 16), hgK S k, nI (s % 16), hrK S k) (tmV S) (nI r))
def nxK (b : Bool) (S : M2) (k s r : Nat) : Nat := (s / 16 + sK b S k s r + r) % 16 * 16 + sK b S k s r
def lpK (b : Bool) (S : M2) (k s r : Nat) : Bool := lmS S (nI (s / 16), hgK S k, nI (s % 16), hrK S k) (nI (sK b S k s r))
theorem sK_lt {b : Bool} {S : M2} {k s r : Nat} : sK b S k s r < 16 := sayV_lt
theorem nxK_lt {b : Bool} {S : M2} {k s r : Nat} : nxK b S k s r < 256 := by
  have := @sK_lt b S k s r
  unfold nxK
  omega
/-- what an hour counts (a: what is sought; n: of how many hours) -/
def ptK (b : Bool) (S : M2) (a : Nat) (set : Int32) (n k s r : Nat) : Int :=
  bif Nat.beq a 2 then (bif lpK b S k s r then -1 else 0) else bif Nat.beq a 0 && Nat.blt (k + 1) n then 0 else (btN set (sK b S k s r) : Int)
def mxI (f : Nat → Int) : Nat → Int
  | 0 => -1000
  | r + 1 => max (mxI f r) (f r)
theorem mxI_ge {f : Nat → Int} : ∀ n r, r < n → f r ≤ mxI f n
  | 0, r, h => absurd h (by omega)
  | n + 1, r, h => by
    show f r ≤ max (mxI f n) (f n)
    by_cases e : r = n
    · subst e; omega
    · have := mxI_ge (f := f) n r (by omega)
      omega
theorem mxI_is {f : Nat → Int} : ∀ n, mxI f n = -1000 ∨ ∃ r, r < n ∧ mxI f n = f r
  | 0 => Or.inl rfl
  | n + 1 => by
    have h : mxI f (n + 1) = max (mxI f n) (f n) := rfl
    rcases mxI_is (f := f) n with e | ⟨r, h1, h2⟩
    · by_cases q : mxI f n ≤ f n
      · exact Or.inr ⟨n, by omega, by omega⟩
      · exact Or.inl (by omega)
    · by_cases q : mxI f n ≤ f n
      · exact Or.inr ⟨n, by omega, by omega⟩
      · exact Or.inr ⟨r, by omega, by omega⟩
def hdK (b : Bool) (S : M2) (a : Nat) (set : Int32) (n : Nat) (wv : Nat → Nat → Int) (k s r : Nat) : Int := ptK b S a set n k s r + wv (k + 1) (nxK b S k s r)
def wvK (b : Bool) (S : M2) (a B : Nat) (set : Int32) (n : Nat) : Nat → Nat → Nat → Int
  | 0, _, _ => 0
  | m + 1, k, s => mxI (fun r => bif B.testBit r then ptK b S a set n k s r + wvK b S a B set n m (k + 1) (nxK b S k s r) else -1000) 10
/-- worth of a state, of n hours -/
def wtK (b : Bool) (S : M2) (a B : Nat) (set : Int32) (n k s : Nat) : Int := wvK b S a B set n (n - k) k s
theorem ptK_bd (b : Bool) (S : M2) (a : Nat) (set : Int32) (n k s r : Nat) : -1 ≤ ptK b S a set n k s r ∧ ptK b S a set n k s r ≤ 1 := by
  unfold ptK
  have := btN_1 set (sK b S k s r)
  cases Nat.beq a 2 with
  | true => cases lpK b S k s r <;> simp only [cond_true, cond_false] <;> omega
  | false =>
    cases Nat.beq a 0 && Nat.blt (k + 1) n with
    | true => simp only [cond_true, cond_false]; omega
    | false =>
      show -1 ≤ (btN set (sK b S k s r) : Int) ∧ (btN set (sK b S k s r) : Int) ≤ 1
      omega
section PLANP
variable {b : Bool} {S : M2} {a B : Nat} {set : Int32} {n : Nat}
theorem wvK_bd (hB : ∃ r, r < 10 ∧ B.testBit r = true) : ∀ (m k s : Nat), m ≤ 100 → -(m : Int) ≤ wvK b S a B set n m k s ∧ wvK b S a B set n m k s ≤ m
  | 0, _, _, _ => ⟨by show -(0 : Int) ≤ 0; decide, Int.le_refl _⟩
  | m + 1, k, s, hm => by
    obtain ⟨r0, h0, hb⟩ := hB
    have g := mxI_ge (f := fun r => bif B.testBit r then ptK b S a set n k s r + wvK b S a B set n m (k + 1) (nxK b S k s r) else -1000) 10 r0 h0
    rw [hb] at g
    have g : ptK b S a set n k s r0 + wvK b S a B set n m (k + 1) (nxK b S k s r0) ≤ wvK b S a B set n (m + 1) k s := g
    have p := ptK_bd b S a set n k s r0
    have i := wvK_bd ⟨r0, h0, hb⟩ m (k + 1) (nxK b S k s r0) (by omega)
    refine ⟨by omega, ?_⟩
    rcases mxI_is (f := fun r => bif B.testBit r then ptK b S a set n k s r + wvK b S a B set n m (k + 1) (nxK b S k s r) else -1000) 10 with e | ⟨r, h1, e⟩
    · have e : wvK b S a B set n (m + 1) k s = -1000 := e
      omega
    · have e : wvK b S a B set n (m + 1) k s = bif B.testBit r then ptK b S a set n k s r + wvK b S a B set n m (k + 1) (nxK b S k s r) else -1000 := e
      cases hr : B.testBit r with
      | true =>
        rw [hr] at e
        have e : wvK b S a B set n (m + 1) k s = ptK b S a set n k s r + wvK b S a B set n m (k + 1) (nxK b S k s r) := e
        have p := ptK_bd b S a set n k s r
        have i := wvK_bd ⟨r0, h0, hb⟩ m (k + 1) (nxK b S k s r) (by omega)
        omega
      | false =>
        rw [hr] at e
        have e : wvK b S a B set n (m + 1) k s = -1000 := e
        omega
theorem wt_n (s : Nat) : wtK b S a B set n n s = 0 := by
  unfold wtK
  rw [Nat.sub_self]
  rfl
theorem wt_s {k : Nat} (hk : k < n) (s : Nat) : wtK b S a B set n k s = mxI (fun r => bif B.testBit r then ptK b S a set n k s r + wtK b S a B set n (k + 1) (nxK b S k s r) else -1000) 10 := by
  unfold wtK
  rw [show n - k = (n - (k + 1)) + 1 by omega]
  rfl
theorem wt_bd (hB : ∃ r, r < 10 ∧ B.testBit r = true) (hn : n ≤ 12) (k s : Nat) : -12 ≤ wtK b S a B set n k s ∧ wtK b S a B set n k s ≤ 12 := by
  have := wvK_bd (b := b) (S := S) (a := a) (set := set) (n := n) hB (n - k) k s (by omega)
  unfold wtK
  omega
/-- the greatest is had by a remark -/
theorem wt_at (hB : ∃ r, r < 10 ∧ B.testBit r = true) (hn : n ≤ 12) {k : Nat} (hk : k < n) (s : Nat) : ∃ r, r < 10 ∧ B.testBit r = true ∧ ptK b S a set n k s r + wtK b S a B set n (k + 1) (nxK b S k s r) = wtK b S a B set n k s := by
  have bd := wt_bd (b := b) (S := S) (a := a) (set := set) hB hn k s
  rw [wt_s hk] at bd ⊢
  rcases mxI_is (f := fun r => bif B.testBit r then ptK b S a set n k s r + wtK b S a B set n (k + 1) (nxK b S k s r) else -1000) 10 with e | ⟨r, h1, e⟩
  · omega
  · refine ⟨r, h1, ?_⟩
    rw [e] at bd ⊢
    cases hr : B.testBit r with
    | true => exact ⟨rfl, by simp only [hr, cond_true]⟩
    | false =>
      simp only [hr, cond_false] at bd
      omega
theorem wt_ge {k : Nat} (hk : k < n) (s : Nat) {r : Nat} (hr : r < 10) (hb : B.testBit r = true) : ptK b S a set n k s r + wtK b S a B set n (k + 1) (nxK b S k s r) ≤ wtK b S a B set n k s := by
  rw [wt_s hk]
  have := mxI_ge (f := fun r => bif B.testBit r then ptK b S a set n k s r + wtK b S a B set n (k + 1) (nxK b S k s r) else -1000) 10 r hr
  simp only [hb, cond_true] at this
  exact this
end PLANP
/-- how he may be, by hours, from a state on -/
def rcP (b : Bool) (S : M2) (B s0 : Nat) : Nat → Nat → Prop
  | 0, s => s = s0
  | k + 1, s => ∃ s', s' < 256 ∧ rcP b S B s0 k s' ∧ ∃ r, r < 10 ∧ B.testBit r = true ∧ nxK b S k s' r = s
/-- a told thing may be said in an hour -/
def sayP (b : Bool) (S : M2) (B s0 : Nat) (set : Int32) (k : Nat) : Prop := ∃ s, s < 256 ∧ rcP b S B s0 k s ∧ ∃ r, r < 10 ∧ B.testBit r = true ∧ btN set (sK b S k s r) = 1
section SAYP
variable {b : Bool} {S : M2} {B s0 : Nat} {set : Int32} {n : Nat}
theorem wt0_01 (hB : ∃ r, r < 10 ∧ B.testBit r = true) (hn : n ≤ 12) : ∀ m k s, k + m = n → wtK b S 0 B set n k s = 0 ∨ wtK b S 0 B set n k s = 1
  | 0, k, s, h => by
    have : k = n := by omega
    subst this
    exact Or.inl (wt_n s)
  | m + 1, k, s, h => by
    obtain ⟨r, h1, h2, h3⟩ := wt_at (b := b) (S := S) (a := 0) (set := set) hB hn (k := k) (by omega) s
    have ih := wt0_01 hB hn m (k + 1) (nxK b S k s r) (by omega)
    rw [← h3]
    have e : ptK b S 0 set n k s r = bif Nat.blt (k + 1) n then 0 else (btN set (sK b S k s r) : Int) := rfl
    by_cases q : k + 1 < n
    · rw [e, blt_i.mpr q]
      show (0 : Int) + _ = 0 ∨ (0 : Int) + _ = 1
      omega
    · have : k + 1 = n := by omega
      rw [e, blt_f.mpr q, this, wt_n]
      have := btN_1 set (sK b S k s r)
      show (btN set (sK b S k s r) : Int) + 0 = 0 ∨ (btN set (sK b S k s r) : Int) + 0 = 1
      omega
theorem say_wt (hB : ∃ r, r < 10 ∧ B.testBit r = true) (hn : n ≤ 12) (hs0 : s0 < 256) : ∀ k, k < n → ((∃ s, s < 256 ∧ rcP b S B s0 k s ∧ wtK b S 0 B set n k s = 1) ↔ wtK b S 0 B set n 0 s0 = 1)
  | 0, _ => by
    constructor
    · rintro ⟨s, h1, h2, h3⟩
      have h2 : s = s0 := h2
      subst h2
      exact h3
    · intro h; exact ⟨s0, hs0, rfl, h⟩
  | k + 1, hk => by
    refine Iff.trans ?_ (say_wt hB hn hs0 k (by omega))
    have z : ∀ s r, ptK b S 0 set n k s r = 0 := fun s r => by
      have e : ptK b S 0 set n k s r = bif Nat.blt (k + 1) n then 0 else (btN set (sK b S k s r) : Int) := rfl
      rw [e, blt_i.mpr hk]; rfl
    constructor
    · rintro ⟨s, h1, ⟨s', h2, h3, r, h4, h5, h6⟩, h7⟩
      refine ⟨s', h2, h3, ?_⟩
      have g := wt_ge (b := b) (S := S) (a := 0) (B := B) (set := set) (n := n) (k := k) (by omega) s' h4 h5
      rw [h6, h7, z] at g
      have := wt0_01 (b := b) (S := S) (set := set) hB hn (n - k) k s' (by omega)
      omega
    · rintro ⟨s, h1, h2, h3⟩
      obtain ⟨r, g1, g2, g3⟩ := wt_at (b := b) (S := S) (a := 0) (set := set) hB hn (k := k) (by omega) s
      rw [z, h3] at g3
      exact ⟨nxK b S k s r, nxK_lt, ⟨s, h1, h2, r, g1, g2, rfl⟩, by omega⟩
/-- by n hours, and in the last: just where it may be said there -/
theorem say_i (hB : ∃ r, r < 10 ∧ B.testBit r = true) {n : Nat} (hn : n + 1 ≤ 12) (hs0 : s0 < 256) : wtK b S 0 B set (n + 1) 0 s0 = 1 ↔ sayP b S B s0 set n := by
  rw [← say_wt (b := b) (S := S) (set := set) hB hn hs0 n (by omega)]
  have z : ∀ s r, ptK b S 0 set (n + 1) n s r = (btN set (sK b S n s r) : Int) := fun s r => by
    have e : ptK b S 0 set (n + 1) n s r = bif Nat.blt (n + 1) (n + 1) then 0 else (btN set (sK b S n s r) : Int) := rfl
    rw [e, blt_f.mpr (by omega)]; rfl
  unfold sayP
  constructor
  · rintro ⟨s, h1, h2, h3⟩
    obtain ⟨r, g1, g2, g3⟩ := wt_at (b := b) (S := S) (a := 0) (set := set) hB hn (k := n) (by omega) s
    rw [z, h3, wt_n] at g3
    exact ⟨s, h1, h2, r, g1, g2, by omega⟩
  · rintro ⟨s, h1, h2, r, g1, g2, g3⟩
    refine ⟨s, h1, h2, ?_⟩
    have g := wt_ge (b := b) (S := S) (a := 0) (B := B) (set := set) (n := n + 1) (k := n) (by omega) s g1 g2
    rw [z, wt_n, g3] at g
    have := wt0_01 (b := b) (S := S) (set := set) hB hn 1 n s (by omega)
    omega
end SAYP
/-- the first of like remarks -/
def fpK (b : Bool) (S : M2) (a B : Nat) (set : Int32) (n k s : Nat) : Nat → Nat → Nat
  | 0, r => r
  | m + 1, r => bif B.testBit r && decide (ptK b S a set n k s r + wtK b S a B set n (k + 1) (nxK b S k s r) = wtK b S a B set n k s) then r else fpK b S a B set n k s m (r + 1)
def paK (b : Bool) (S : M2) (a B : Nat) (set : Int32) (n s0 : Nat) : Nat → Nat
  | 0 => s0
  | k + 1 => nxK b S k (paK b S a B set n s0 k) (fpK b S a B set n k (paK b S a B set n s0 k) 9 0)
/-- the k-th remark -/
def rkK (b : Bool) (S : M2) (a B : Nat) (set : Int32) (n s0 k : Nat) : Nat := fpK b S a B set n k (paK b S a B set n s0 k) 9 0
/-! four bits of a long -/
def nbL (L : Int64) (r : Nat) : Int32 := ((((L.toUInt64 >>> ((4 * nI r).toInt64.toUInt64 &&& Int64.toUInt64 63)).toInt64).toInt32) &&& 15)
def stL (L : Int64) (r : Nat) (v : Int32) : Int64 := (L &&& ((15 <<< ((4 * nI r).toInt64 &&& 63)) ^^^ (-1))) ||| (v.toInt64 <<< ((4 * nI r).toInt64 &&& 63))
theorem sh4_v : ∀ r, r < 10 → ((4 * nI r).toInt64.toUInt64 &&& Int64.toUInt64 63).toBitVec.toNat % 64 = 4 * r := by decide
theorem sh4_t : ∀ r, r < 10 → (((4 * nI r).toInt64 &&& 63).toBitVec.smod 64).toNat = 4 * r := by decide
