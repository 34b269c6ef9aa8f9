/-! SMALL METHODS OF THE REFERENCE -/
def inV (v lo hi : Int32) : Bool := decide (lo ≤ v) && decide (v ≤ hi)
theorem i_nlt {x y : Int32} (h : ¬ x < y) : y ≤ x := by rw [i_lt] at h; rw [i_le]; omega
theorem i_nle {x y : Int32} (h : ¬ x ≤ y) : y < x := by rw [i_le] at h; rw [i_lt]; omega
theorem inV_n {v hi : Int32} {n : Nat} (h : hi = nI n) (hn : n < 2147483647) : inV v 0 hi = rg v (n + 1) := by
  have h1 := nI_toInt (n := n) (by omega)
  have h2 := ix_t v
  subst h
  unfold inV
  cases hr : rg v (n + 1) with
  | true =>
    have := rg_tt hr
    rw [decide_eq_true (show (0 : Int32) ≤ v by rw [i_le, z_toInt]; omega), decide_eq_true (show v ≤ nI n by rw [i_le]; omega)]
    rfl
  | false =>
    have := rg_f.mp hr
    by_cases h : (0 : Int32) ≤ v
    · rw [decide_eq_true h, decide_eq_false (show ¬ v ≤ nI n by rw [i_le, z_toInt] at h; rw [i_le]; omega)]
      rfl
    · rw [decide_eq_false h]; rfl
theorem one_toInt : (1 : Int32).toInt = 1 := rfl
theorem m1_toInt (c : Int32) (h : 0 ≤ c.toInt) : (c - 1).toInt = c.toInt - 1 := by
  rw [Int32.toInt_sub, one_toInt]
  have := ix_t c
  have h2 : c.toInt - 1 = c.toInt - 1 := rfl
  exact Int.bmod_eq_of_le (by omega) (by omega)
theorem inV_c {v c : Int32} (hc : 0 ≤ c.toInt) : inV v 0 (c - 1) = rg v (ix c) := by
  have h1 := ix_t c
  have h2 := ix_t v
  have h3 := m1_toInt c hc
  unfold inV
  cases hr : rg v (ix c) with
  | true =>
    have := rg_tt hr
    rw [decide_eq_true (show (0 : Int32) ≤ v by rw [i_le, z_toInt]; omega), decide_eq_true (show v ≤ c - 1 by rw [i_le]; omega)]
    rfl
  | false =>
    have := rg_f.mp hr
    by_cases h : (0 : Int32) ≤ v
    · rw [decide_eq_true h, decide_eq_false (show ¬ v ≤ c - 1 by rw [i_le, z_toInt] at h; rw [i_le]; omega)]
      rfl
    · rw [decide_eq_false h]; rfl
section MOD
variable {d : Nat} {b : Bool} {M : M2} {f : Int32 → Mm → Prop} {g : Mm → Prop}
theorem c180 {v lo hi : Int32} (hd : 1 ≤ d) (k : f (bI (inV v lo hi)) (FR b, M)) : WP d 107 180 0 [.int v, .int lo, .int hi] [] 107 (FR b, M) (rI f) := by
  obtain ⟨d, rfl⟩ := ex1 hd
  unfold inV at k
  refine v180_0 ⟨fun h => ?_, fun h => ⟨fun h2 => ?_, fun h2 => ?_⟩⟩
  · rw [decide_eq_false (show ¬ lo ≤ v from fun q => by rw [i_lt] at h; rw [i_le] at q; omega)] at k; exact k
  · rw [decide_eq_true (i_nlt h), decide_eq_false (show ¬ v ≤ hi from fun q => by rw [i_lt] at h2; rw [i_le] at q; omega)] at k; exact k
  · rw [decide_eq_true (i_nlt h), decide_eq_true (i_nlt h2)] at k; exact k
theorem c180n {v hi : Int32} (n : Nat) (hd : 1 ≤ d) (hh : hi = nI n) (hn : n < 2147483647) (k : f (bI (rg v (n + 1))) (FR b, M)) : WP d 107 180 0 [.int v, .int 0, .int hi] [] 107 (FR b, M) (rI f) :=
  c180 hd (by rw [inV_n hh hn]; exact k)
theorem c183 {v : Int32} (hd : 2 ≤ d) (k : f (bI (rg v 6)) (FR b, M)) : WP d 107 183 0 [.int v] [] 107 (FR b, M) (rI f) := by
  obtain ⟨d, rfl⟩ := ex1 (e := 1) hd
  exact v183_0 (c180n 5 (by omega) rfl (by decide) ⟨rfl, iK_b k⟩)
theorem c193 {v : Int32} (hd : 2 ≤ d) (k : f (bI (rg v 16)) (FR b, M)) : WP d 107 193 0 [.int v] [] 107 (FR b, M) (rI f) := by
  obtain ⟨d, rfl⟩ := ex1 (e := 1) hd
  exact v193_0 (c180n 15 (by omega) rfl (by decide) ⟨rfl, iK_b k⟩)
theorem c214 {v : Int32} (hd : 2 ≤ d) (k : f (bI (rg v 10)) (FR b, M)) : WP d 107 214 0 [.int v] [] 107 (FR b, M) (rI f) := by
  obtain ⟨d, rfl⟩ := ex1 (e := 1) hd
  exact v214_0 (c180n 9 (by omega) rfl (by decide) ⟨rfl, iK_b k⟩)
theorem c190 {v : Int32} (hd : 2 ≤ d) (hc : 0 ≤ (gI M 67 2).toInt) (k : f (bI (rg v (ix (gI M 67 2)))) (FR b, M)) : WP d 107 190 0 [.ref 67, .int v] [] 107 (FR b, M) (rI f) := by
  obtain ⟨d, rfl⟩ := ex1 (e := 1) hd
  exact v190_0 (c180 (by omega) ⟨rfl, iK_b (by rw [inV_c hc]; exact k)⟩)
theorem c191 {v : Int32} (hd : 2 ≤ d) (hc : 0 ≤ (gI M 67 7).toInt) (k : f (bI (rg v (ix (gI M 67 7)))) (FR b, M)) : WP d 107 191 0 [.ref 67, .int v] [] 107 (FR b, M) (rI f) := by
  obtain ⟨d, rfl⟩ := ex1 (e := 1) hd
  exact v191_0 (c180 (by omega) ⟨rfl, iK_b (by rw [inV_c hc]; exact k)⟩)
/-- isOne -/
def isOneV (M : M2) (n w : Int32) : Bool := bif rg w 11 then (bif rg w 7 then decide (n = 0) else bif decide (w = 10) then rg n (ix (gI M 67 7)) else rg n (ix (gI M 67 2))) else false
theorem in79 {w : Int32} (h7 : rg w 7 = false) : inV w 7 9 = rg w 10 := by
  have h2 := ix_t w
  have := rg_f.mp h7
  unfold inV
  cases hr : rg w 10 with
  | true =>
    have := rg_tt hr
    rw [decide_eq_true (show (7 : Int32) ≤ w by rw [i_le, show (7 : Int32).toInt = 7 from rfl]; omega), decide_eq_true (show w ≤ 9 by rw [i_le, show (9 : Int32).toInt = 9 from rfl]; omega)]
    rfl
  | false =>
    have := rg_f.mp hr
    by_cases h : (7 : Int32) ≤ w
    · rw [decide_eq_true h, decide_eq_false (show ¬ w ≤ 9 by rw [i_le, show (7 : Int32).toInt = 7 from rfl] at h; rw [i_le, show (9 : Int32).toInt = 9 from rfl]; omega)]
      rfl
    · rw [decide_eq_false h]; rfl
theorem c189 {n w : Int32} (hd : 3 ≤ d) (h1 : 0 ≤ (gI M 67 7).toInt) (h2 : 0 ≤ (gI M 67 2).toInt) (k : f (bI (isOneV M n w)) (FR b, M)) : WP d 107 189 0 [.ref 67, .int n, .int w] [] 107 (FR b, M) (rI f) := by
  obtain ⟨d, rfl⟩ := ex1 (e := 2) hd
  unfold isOneV at k
  refine v189_0 (c180n 6 (by omega) rfl (by decide) ⟨rfl, brK_b (fun h => ?_) (fun h => ?_)⟩)
  · rw [h] at k
    refine c180 (by omega) ⟨rfl, ?_⟩
    rw [in79 h]
    refine brK_b (fun h9 => brK_d (fun h8 => ?_) (fun h8 => ?_)) (fun h9 => ?_)
    · have : rg w 11 = true := by have e : w = 10 := of_decide_eq_true h8; subst e; rfl
      rw [this, h8] at k
      refine c191 (by omega) h1 ⟨rfl, brK_b (fun q => ?_) (fun q => ?_)⟩
      · rw [q] at k; exact k
      · rw [q] at k; exact k
    · have : rg w 11 = false := rg_f.mpr (by
        have := rg_f.mp h9
        have := ix_lit (of_decide_eq_false h8)
        rw [show ix 10 = 10 from rfl] at this
        omega)
      rw [this] at k
      exact k
    · have h11 : rg w 11 = true := rg_t.mpr (by have := rg_tt h9; omega)
      have h10 : decide (w = 10) = false := decide_eq_false (fun q => by subst q; exact absurd h9 (by decide))
      rw [h11, h10] at k
      exact c190 (by omega) h2 ⟨rfl, iK_b k⟩
  · have h11 : rg w 11 = true := rg_t.mpr (by have := rg_tt h; omega)
    rw [h11, h] at k
    refine brK_d (fun h8 => ?_) (fun h8 => ?_)
    · rw [h8] at k; exact k
    · rw [h8] at k; exact k
/-- mayHave -/
theorem c192 {w v : Int32} (hd : 3 ≤ d) (hw : ix w < 11) (k : f (bI (rg v (GR (ix w)))) (FR b, M)) : WP d 107 192 0 [.int w, .int v] [] 107 (FR b, M) (rI f) := by
  obtain ⟨d, rfl⟩ := ex1 (e := 2) hd
  refine v192_0 ⟨fun h => ?_, fun h0 => ⟨fun h => ?_, fun h1 => ⟨fun h => ?_, fun h2 => ⟨fun h => ?_, fun h3 => ⟨fun h => ?_, fun h4 => ⟨fun h => ?_, fun h5 => ⟨fun h => ?_, fun h6 => ⟨fun h => ?_, fun h7 => ⟨fun h => ?_, fun h8 => ⟨fun h => ?_, fun h9 => ⟨fun h => ?_, fun h10 => ?_⟩⟩⟩⟩⟩⟩⟩⟩⟩⟩⟩
  · subst h; exact c193 (by omega) ⟨rfl, iK_b k⟩
  · subst h; exact c180n 9 (by omega) rfl (by decide) ⟨rfl, iK_b k⟩
  · subst h; exact c193 (by omega) ⟨rfl, iK_b k⟩
  · subst h; exact c180n 23 (by omega) rfl (by decide) ⟨rfl, iK_b k⟩
  · subst h; exact c180n 3 (by omega) rfl (by decide) ⟨rfl, iK_b k⟩
  · subst h; exact c180n 9 (by omega) rfl (by decide) ⟨rfl, iK_b k⟩
  · subst h; exact c180n 9 (by omega) rfl (by decide) ⟨rfl, iK_b k⟩
  · subst h; exact c180n 65535 (by omega) rfl (by decide) ⟨rfl, iK_b k⟩
  · subst h; exact c180n 99 (by omega) rfl (by decide) ⟨rfl, iK_b k⟩
  · subst h; exact c180n 9 (by omega) rfl (by decide) ⟨rfl, iK_b k⟩
  · subst h; exact c180n 65535 (by omega) rfl (by decide) ⟨rfl, iK_b k⟩
  · exfalso
    have a0 : ix w ≠ 0 := ix_lit h0
    have a1 : ix w ≠ 1 := ix_lit h1
    have a2 : ix w ≠ 2 := ix_lit h2
    have a3 : ix w ≠ 3 := ix_lit h3
    have a4 : ix w ≠ 4 := ix_lit h4
    have a5 : ix w ≠ 5 := ix_lit h5
    have a6 : ix w ≠ 6 := ix_lit h6
    have a7 : ix w ≠ 7 := ix_lit h7
    have a8 : ix w ≠ 8 := ix_lit h8
    have a9 : ix w ≠ 9 := ix_lit h9
    have aa : ix w ≠ 10 := ix_lit h10
    omega
/-- the cell of a number that is told, the reference's -/
def mtC (w : Nat) : Nat := bif Nat.blt w 7 then 68 else bif Nat.beq w 7 then 69 else bif Nat.beq w 8 then 70 else bif Nat.beq w 9 then 71 else 73
theorem ge7 {w : Int32} (hw : ix w < 11) : (7 ≤ w ↔ 7 ≤ ix w) := by
  have := ix_t w
  rw [i_le, show (7 : Int32).toInt = 7 from rfl]
  omega
theorem c195 {n w : Int32} (hd : 1 ≤ d) (hw : ix w < 11) (hn : ix n < lnW (ix w)) (k : f (gI M (mtC (ix w)) (tldJ (ix w) (ix n))) (FR b, M)) : WP d 107 195 0 [.ref 67, .int w, .int n] [] 107 (FR b, M) (rI f) := by
  obtain ⟨d, rfl⟩ := ex1 hd
  refine v195_0 ⟨fun h => ⟨fun h1 => ?_, fun h1 => ⟨fun h2 => ?_, fun h2 => ⟨fun h3 => ?_, fun h3 => ?_⟩⟩⟩, fun h => ?_⟩
  · subst h1; exact iK_i hn k
  · subst h2; exact iK_i hn k
  · subst h3; exact iK_i hn k
  · have h7 := (ge7 hw).mp h
    have a7 : ix w ≠ 7 := ix_lit h1
    have a8 : ix w ≠ 8 := ix_lit h2
    have a9 : ix w ≠ 9 := ix_lit h3
    have : ix w = 10 := by omega
    rw [this] at hn k
    exact iK_i hn k
  · have h7 : ix w < 7 := by
      have := mt (ge7 hw).mpr h
      omega
    unfold mtC tldJ at k
    rw [show Nat.blt (ix w) 7 = true from Nat.ble_eq_true_of_le h7] at k
    exact iK_i h7 k
theorem c186 {n w v : Int32} (hd : 1 ≤ d) (hw : ix w < 11) (hn : ix n < lnW (ix w)) (k : g (FR b, sI M (mtC (ix w)) (tldJ (ix w) (ix n)) v)) : WP d 107 186 0 [.ref 67, .int w, .int n, .int v] [] 107 (FR b, M) (rV g) := by
  obtain ⟨d, rfl⟩ := ex1 hd
  refine v186_0 ⟨fun h => ⟨fun h1 => ?_, fun h1 => ⟨fun h2 => ?_, fun h2 => ⟨fun h3 => ?_, fun h3 => ?_⟩⟩⟩, fun h => ?_⟩
  · subst h1; exact iK_i hn k
  · subst h2; exact iK_i hn k
  · subst h3; exact iK_i hn k
  · have h7 := (ge7 hw).mp h
    have a7 : ix w ≠ 7 := ix_lit h1
    have a8 : ix w ≠ 8 := ix_lit h2
    have a9 : ix w ≠ 9 := ix_lit h3
    have : ix w = 10 := by omega
    rw [this] at hn k
    exact iK_i hn k
  · have h7 : ix w < 7 := by
      have := mt (ge7 hw).mpr h
      omega
    unfold mtC tldJ at k
    rw [show Nat.blt (ix w) 7 = true from Nat.ble_eq_true_of_le h7] at k
    exact iK_i h7 k
end MOD
