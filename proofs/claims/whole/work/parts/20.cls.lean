/-! SMALL METHODS OF THE CLASS -/
theorem ix_s {r : Nat} {a b : Int32} (h : a = b) : ix a = ix b := by rw [h]
theorem brK_d {c : Prop} [Decidable c] {A B : Prop} (h1 : decide c = true → A) (h2 : decide c = false → B) : brK c A B := ⟨fun h => h1 (decide_eq_true h), fun h => h2 (decide_eq_false h)⟩
def isRowV (M : M2) (i : Nat) (w : Int32) : Bool := decide (gI M (shC i) 0 = 2) && decide (gI M (shC i) 2 = w)
def refV (M : M2) (i : Nat) : Int32 := bif decide (gI M (shC i) 0 = 0) then -11 else -12
def itV (M : M2) (i : Nat) (v : Int32) : Int64 := bif rg v (ix (gI M (shC i) 3)) then gL M (shC i + 1) (ix v) else 0
def byV (M : M2) (i : Nat) (v : Int32) : Int32 := bif rg v (ix (gI M (shC i) 3)) then (gL M (shC i + 1) (ix v)).toInt32 else -1
def rmV (M : M2) (i : Nat) (v : Int32) : Int32 := bif rg (byV M i v) 10 then byV M i v else 0
section CLS
variable {d : Nat} {b : Bool} {M : M2} {f : Int32 → Mm → Prop} {g : Mm → Prop}
theorem c19 {i : Nat} {w : Int32} (hd : 1 ≤ d) (hi : i < 6) (k : f (bI (isRowV M i w)) (FR b, M)) : WP d 107 19 0 [.ref (shC i), .int w] [] 107 (FR b, M) (rI f) := by
  obtain ⟨d, rfl⟩ := ex1 hd
  have hk := sh_kd i hi
  unfold isRowV at k
  refine v19_0 (oK_i hk.2.1 hk.1 (brK_d (fun h => oK_i hk.2.1 hk.1 (brK_d (fun h2 => ?_) (fun h2 => ?_))) (fun h => ?_)))
  · rw [h, h2] at k; exact k
  · rw [h, h2] at k; exact k
  · rw [h] at k; exact k
theorem c66 {i : Nat} (hd : 1 ≤ d) (hi : i < 6) (k : f (refV M i) (FR b, M)) : WP d 107 66 0 [.ref (shC i)] [] 107 (FR b, M) (rI f) := by
  obtain ⟨d, rfl⟩ := ex1 hd
  have hk := sh_kd i hi
  unfold refV at k
  refine v66_0 (oK_i hk.2.1 hk.1 (brK_d (fun h => ?_) (fun h => ?_)))
  · rw [h] at k; exact k
  · rw [h] at k; exact k
theorem c21 {i : Nat} {v : Int32} {f : Int64 → Mm → Prop} (hd : 1 ≤ d) (hi : i < 6) (hz : ix (gI M (shC i) 3) ≤ 60) (k : f (itV M i v) (FR b, M)) : WP d 107 21 0 [.ref (shC i), .int v] [] 107 (FR b, M) (rL f) := by
  obtain ⟨d, rfl⟩ := ex1 hd
  have hk := sh_kd i hi
  have h0 := ix_t v
  have h1 := ix_t (gI M (shC i) 3)
  have hl : lenI M (shC i + 1) = nI 60 := by unfold lenI; rw [hk.2.2.1, hk.2.2.2.2]; rfl
  have h60 := nI_toInt (n := 60) (by decide)
  unfold itV at k
  refine v21_0 ⟨fun h => ?_, fun h => oK_i hk.2.1 hk.1 ⟨fun h2 => ?_, fun h2 => oK_i hk.2.1 hk.1 (rK_i (FRs4 b i hi) (rdN_i hk.2.2.2.1 (by rw [hk.2.2.1]; decide) ⟨fun h3 => ?_, fun h3 => oK_i hk.2.1 hk.1 (rK_i (FRs4 b i hi) (oK_i hk.2.2.2.1 hk.2.2.1 (iK_i ?_ ?_)))⟩))⟩⟩
  · rw [i_lt, z_toInt] at h
    rw [rg_f.mpr (by omega)] at k; exact k
  · rw [i_lt, z_toInt] at h
    rw [i_le] at h2
    rw [rg_f.mpr (by omega)] at k; exact k
  · rw [i_lt, z_toInt] at h
    rw [i_le] at h2
    rw [hl, i_le] at h3
    omega
  · rw [i_lt, z_toInt] at h
    rw [i_le] at h2
    rw [hk.2.2.2.2]
    omega
  · rw [i_lt, z_toInt] at h
    rw [i_le] at h2
    rw [rg_t.mpr (by omega)] at k; exact k
theorem c70 {i : Nat} {v : Int32} (hd : 2 ≤ d) (hi : i < 6) (hz : ix (gI M (shC i) 3) ≤ 60) (k : f (byV M i v) (FR b, M)) : WP d 107 70 0 [.ref (shC i), .int v] [] 107 (FR b, M) (rI f) := by
  obtain ⟨d, rfl⟩ := ex1 (e := 1) hd
  have hk := sh_kd i hi
  have h0 := ix_t v
  have h1 := ix_t (gI M (shC i) 3)
  unfold byV at k
  refine v70_0 ⟨fun h => ?_, fun h => oK_i hk.2.1 hk.1 ⟨fun h2 => ?_, fun h2 => oK_i hk.2.1 hk.1 (c21 (by omega) hi hz ⟨rfl, ?_⟩)⟩⟩
  · rw [i_lt, z_toInt] at h
    rw [rg_f.mpr (by omega)] at k; exact k
  · rw [i_lt, z_toInt] at h
    rw [i_le] at h2
    rw [rg_f.mpr (by omega)] at k; exact k
  · rw [i_lt, z_toInt] at h
    rw [i_le] at h2
    have e : rg v (ix (gI M (shC i) 3)) = true := rg_t.mpr (by omega)
    rw [e] at k
    unfold itV
    rw [e]
    exact k
theorem c69 {i : Nat} {v : Int32} (hd : 3 ≤ d) (hi : i < 6) (hz : ix (gI M (shC i) 3) ≤ 60) (k : f (rmV M i v) (FR b, M)) : WP d 107 69 0 [.ref (shC i), .int v, U] [] 107 (FR b, M) (rI f) := by
  obtain ⟨d, rfl⟩ := ex1 (e := 2) hd
  have hk := sh_kd i hi
  unfold rmV at k
  refine v69_0 (oK_i hk.2.1 hk.1 (c70 (by omega) hi hz ⟨rfl, c59 (by omega) ⟨rfl, brK_b (fun h => ?_) (fun h => ?_)⟩⟩))
  · rw [h] at k; exact k
  · rw [h] at k; exact k
/-- isWithin -/
theorem c14 {w v : Int32} (hd : 2 ≤ d) (hs : StatW M) (hw : ix w < 11) (k : f (bI (rg v (GR (ix w)))) (FR b, M)) : WP d 107 14 0 [.int w, .int v] [] 107 (FR b, M) (rI f) := by
  obtain ⟨d, rfl⟩ := ex1 (e := 1) hd
  have h0 := ix_t v
  have hG : 1 ≤ GR (ix w) ∧ GR (ix w) ≤ 65536 := (show ∀ n, n < 11 → 1 ≤ GR n ∧ GR n ≤ 65536 by decide) _ hw
  have ha : atV M 0 w = nI (GR (ix w) - 1) := by
    unfold atV
    rw [rg_t.mpr (show ix w < ln 0 from hw)]
    exact hs.1 _ hw
  have hn := nI_toInt (n := GR (ix w) - 1) (by omega)
  refine v14_0 ⟨fun h => ?_, fun h => c15 (by omega) (by decide) (Or.inr rfl) ⟨rfl, ?_⟩⟩
  · rw [i_lt, z_toInt] at h
    rw [rg_f.mpr (by omega)] at k; exact k
  · rw [ha]
    rw [i_lt, z_toInt] at h
    refine ⟨fun h2 => ?_, fun h2 => ?_⟩
    · rw [i_lt] at h2
      rw [rg_f.mpr (by omega)] at k; exact k
    · rw [i_lt] at h2
      rw [rg_t.mpr (by omega)] at k; exact k
theorem ix_lit {v w : Int32} (h : ¬ v = w) : ix v ≠ ix w := fun q => h (ix_inj q)
/-- told, of one's numbers -/
theorem c29 {th : Nat} {w : Int32} (hd : 1 ≤ d) (hr : th < 107) (hk : kd th = 3) (hw : ix w < 7) (k : f (gI M th (ix w)) (FR b, M)) : WP d 107 29 0 [.ref th, .int w] [] 107 (FR b, M) (rI f) := by
  obtain ⟨d, rfl⟩ := ex1 hd
  refine v29_0 ⟨fun h => ?_, fun h0 => ⟨fun h => ?_, fun h1 => ⟨fun h => ?_, fun h2 => ⟨fun h => ?_, fun h3 => ⟨fun h => ?_, fun h4 => ⟨fun h => ?_, fun h5 => ?_⟩⟩⟩⟩⟩⟩
  · subst h; exact oK_i hr hk k
  · subst h; exact oK_i hr hk k
  · subst h; exact oK_i hr hk k
  · subst h; exact oK_i hr hk k
  · subst h; exact oK_i hr hk k
  · subst h; exact oK_i hr hk k
  · have a0 : ix w ≠ 0 := ix_lit h0
    have a1 : ix w ≠ 1 := ix_lit h1
    have a2 : ix w ≠ 2 := ix_lit h2
    have a3 : ix w ≠ 3 := ix_lit h3
    have a4 : ix w ≠ 4 := ix_lit h4
    have a5 : ix w ≠ 5 := ix_lit h5
    rw [show ix w = 6 by omega] at k
    exact oK_i hr hk k
/-- tell, of one's numbers -/
theorem c32 {th : Nat} {w v : Int32} (hd : 1 ≤ d) (hr : th < 107) (hk : kd th = 3) (hw : ix w < 7) (k : g (FR b, sI M th (ix w) v)) : WP d 107 32 0 [.ref th, .int w, .int v] [] 107 (FR b, M) (rV g) := by
  obtain ⟨d, rfl⟩ := ex1 hd
  rw [← sF_eq] at k
  refine v32_0 ⟨fun h => ?_, fun h0 => ⟨fun h => ?_, fun h1 => ⟨fun h => ?_, fun h2 => ⟨fun h => ?_, fun h3 => ⟨fun h => ?_, fun h4 => ⟨fun h => ?_, fun h5 => ?_⟩⟩⟩⟩⟩⟩
  · subst h; exact oK_i hr hk k
  · subst h; exact oK_i hr hk k
  · subst h; exact oK_i hr hk k
  · subst h; exact oK_i hr hk k
  · subst h; exact oK_i hr hk k
  · subst h; exact oK_i hr hk k
  · have a0 : ix w ≠ 0 := ix_lit h0
    have a1 : ix w ≠ 1 := ix_lit h1
    have a2 : ix w ≠ 2 := ix_lit h2
    have a3 : ix w ≠ 3 := ix_lit h3
    have a4 : ix w ≠ 4 := ix_lit h4
    have a5 : ix w ≠ 5 := ix_lit h5
    rw [show ix w = 6 by omega] at k
    exact oK_i hr hk k
/-- the row of a kind of number -/
def rowC (w : Nat) : Nat := bif Nat.beq w 7 then 19 else bif Nat.beq w 8 then 20 else bif Nat.beq w 9 then 21 else 27
theorem c30 {w : Int32} {h : Nat → Mm → Prop} (hd : 1 ≤ d) (h7 : 7 ≤ ix w) (hw : ix w < 11) (k : h (rowC (ix w)) (FR b, M)) : WP d 107 30 0 [.ref 4, .int w] [] 107 (FR b, M) (rA g h) := by
  obtain ⟨d, rfl⟩ := ex1 hd
  refine v30_0 ⟨fun h => ?_, fun h0 => ⟨fun h => ?_, fun h1 => ⟨fun h => ?_, fun h2 => ?_⟩⟩⟩
  · subst h; exact k
  · subst h; exact k
  · subst h; exact k
  · have a0 : ix w ≠ 7 := ix_lit h0
    have a1 : ix w ≠ 8 := ix_lit h1
    have a2 : ix w ≠ 9 := ix_lit h2
    rw [show ix w = 10 by omega] at k
    exact k
theorem rowC_k : ∀ w, w < 11 → 7 ≤ w → kd (rowC w) = 20 ∧ rowC w < 107 ∧ ln (rowC w) = lnW w := by decide
/-- the cell and the slot of a number that is told -/
def tldC (w : Nat) : Nat := bif Nat.blt w 7 then 5 else rowC w
def tldJ (w n : Nat) : Nat := bif Nat.blt w 7 then w else n
theorem le6 {w : Int32} (hw : ix w < 11) : (6 < w ↔ 7 ≤ ix w) := by
  have := ix_t w
  rw [i_lt, show (6 : Int32).toInt = 6 from rfl]
  omega
theorem c28 {n w : Int32} (hd : 2 ≤ d) (hw : ix w < 11) (hn : ix n < lnW (ix w)) (k : f (gI M (tldC (ix w)) (tldJ (ix w) (ix n))) (FR b, M)) : WP d 107 28 0 [.ref 4, .int n, .int w] [] 107 (FR b, M) (rI f) := by
  obtain ⟨d, rfl⟩ := ex1 (e := 1) hd
  refine v28_0 ⟨fun h => ?_, fun h => ?_⟩
  · have h7 := (le6 hw).mp h
    have hr := rowC_k _ hw h7
    refine c30 (by omega) h7 hw ⟨rfl, c15 (by omega) hr.2.1 (Or.inl hr.1) ⟨rfl, ?_⟩⟩
    unfold tldC tldJ at k
    rw [show Nat.blt (ix w) 7 = false from by cases hb : Nat.blt (ix w) 7 with
      | false => rfl
      | true => have := Nat.le_of_ble_eq_true hb; omega] at k
    unfold atV
    rw [rg_t.mpr (by rw [hr.2.2]; exact hn)]
    exact k
  · have h7 : ix w < 7 := by
      have := mt (le6 hw).mpr h
      omega
    refine c29 (by omega) (by decide) rfl h7 ⟨rfl, ?_⟩
    unfold tldC tldJ at k
    rw [show Nat.blt (ix w) 7 = true from Nat.ble_eq_true_of_le h7] at k
    exact k
theorem c31 {n w v : Int32} (hd : 2 ≤ d) (hw : ix w < 11) (hn : ix n < lnW (ix w)) (k : g (FR b, sI M (tldC (ix w)) (tldJ (ix w) (ix n)) v)) : WP d 107 31 0 [.ref 4, .int n, .int w, .int v, U] [] 107 (FR b, M) (rV g) := by
  obtain ⟨d, rfl⟩ := ex1 (e := 1) hd
  refine v31_0 ⟨fun h => ?_, fun h => ?_⟩
  · have h7 := (le6 hw).mp h
    have hr := rowC_k _ hw h7
    have hL : lnW (ix w) ≤ 6 := (show ∀ j, j < 11 → lnW j ≤ 6 by decide) _ hw
    have h0 := ix_t n
    have hl : lenI M (rowC (ix w)) = nI (ln (rowC (ix w))) := by unfold lenI; rw [hr.1]; rfl
    have hq := nI_toInt (n := ln (rowC (ix w))) (by rw [hr.2.2]; omega)
    refine c30 (by omega) h7 hw ⟨rfl, fun h2 => ?_, fun h2 => rdN_i hr.2.1 (by rw [hr.1]; decide) ⟨fun h3 => ?_, fun h3 => oK_i hr.2.1 hr.1 (iK_i (by rw [hr.2.2]; exact hn) ?_)⟩⟩
    · rw [i_lt, z_toInt] at h2
      omega
    · rw [hl, i_le, hq, hr.2.2] at h3
      omega
    · unfold tldC tldJ at k
      rw [show Nat.blt (ix w) 7 = false from by cases hb : Nat.blt (ix w) 7 with
        | false => rfl
        | true => have := Nat.le_of_ble_eq_true hb; omega] at k
      exact k
  · have h7 : ix w < 7 := by
      have := mt (le6 hw).mpr h
      omega
    refine c32 (by omega) (by decide) rfl h7 ⟨rfl, ?_⟩
    unfold tldC tldJ at k
    rw [show Nat.blt (ix w) 7 = true from Nat.ble_eq_true_of_le h7] at k
    exact k
/-- isTold -/
def isTld (M : M2) (n w : Int32) : Bool := bif rg w 11 then (bif rg w 7 then decide (n = 0) else bif decide (w = 10) then rg n (ix (gI M 26 0)) else rg n (ix (gI M 18 0))) else false
theorem c25 {n w : Int32} (hd : 2 ≤ d) (h1 : 0 ≤ (gI M 26 0).toInt) (h2 : 0 ≤ (gI M 18 0).toInt) (k : f (bI (isTld M n w)) (FR b, M)) : WP d 107 25 0 [.ref 4, .int n, .int w] [] 107 (FR b, M) (rI f) := by
  obtain ⟨d, rfl⟩ := ex1 (e := 1) hd
  unfold isTld at k
  refine v25_0 (brK_ri (n := 10) rfl (by decide) (fun h => ?_) (fun h => ⟨fun h6 => ?_, fun h6 => ?_⟩))
  · rw [h] at k; exact k
  · have h7 := (le6 (rg_tt h)).mp h6
    rw [h, show rg w 7 = false from rg_f.mpr (by omega)] at k
    refine brK_d (fun h8 => ?_) (fun h8 => ?_)
    · rw [h8] at k
      exact c26 (by omega) h1 ⟨rfl, iK_b k⟩
    · rw [h8] at k
      exact c27 (by omega) h2 ⟨rfl, iK_b k⟩
  · have h7 : ix w < 7 := by
      have := mt (le6 (rg_tt h)).mpr h6
      omega
    rw [h, rg_t.mpr h7] at k
    refine brK_d (fun h8 => ?_) (fun h8 => ?_)
    · rw [h8] at k; exact k
    · rw [h8] at k; exact k
end CLS
