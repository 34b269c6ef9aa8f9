/-! PAIRS -/
theorem gI_if (M : M2) (r k a j : Nat) (v : Int32) : gI (sI M r k v) a j = if a = r ∧ j = k then v else gI M a j := rfl
theorem ix_succ {v : Int32} (h : ix v < 2147483647) : ix (v + 1) = ix v + 1 := by
  have h1 : ix (v + 1) = (ix v + 1) % 4294967296 := by
    show (v.toBitVec + 1#32).toNat = _
    rw [BitVec.toNat_add]
    rfl
  rw [h1]
  omega
theorem ix_pred {v : Int32} (h : 0 < ix v) : ix (v - 1) = ix v - 1 := by
  have h0 : ix v < 4294967296 := v.toBitVec.isLt
  have h1 : ix (v - 1) = (4294967296 - 1 + ix v) % 4294967296 := by
    show (v.toBitVec - 1#32).toNat = _
    rw [BitVec.toNat_sub]
    rfl
  rw [h1]
  omega
theorem nn_of {v : Int32} {n : Nat} (h : ix v ≤ n) (hn : n < 2147483648) : 0 ≤ v.toInt := by
  have := ix_t v
  omega
theorem ff {p : Bool} {A : Prop} (h : p = false) (q : p = true) : A := by rw [h] at q; exact absurd q (by decide)
section PAIRS
variable {b : Bool} {M : M2}
theorem PAIR_upd {mc mm : Nat} {ac am : List Value} (v : Int32) (Mc M9 : M2) (hc : ∀ d, 199 ≤ d → ∀ f : Int32 → Mm → Prop, f v (FR b, Mc) → WP (d + 1) 107 mc 0 ac [] 107 (FR b, M) (rI f)) (h3 : gI Mc 3 = gI M 3) (hm : ∀ d, 199 ≤ d → ∀ f : Int32 → Mm → Prop, f v (FR b, M9) → WP (d + 1) 107 mm 0 am [] 107 (FR b, Mc) (rI f)) (hI : INV b M9) (h4 : gI M9 3 = gI M 3) : PAIR b M mc mm ac am := by
  intro d hd f k
  obtain ⟨d, rfl⟩ := ex1 (e := 199) hd
  exact hc d (by omega) f (k v Mc h3 (fun f2 k2 => hm d (by omega) f2 (k2 M9 hI h4)))
/-- count -/
theorem P_count (hI : INV b M) {x : Int32} : PAIR b M 177 295 [.ref 4, .int x] [.ref 67, .int x] := by
  obtain ⟨hS, hH, hV, hSc, hL, hC, hA, hSh, hT, hLw⟩ := id hI
  intro d hd f k
  obtain ⟨d, rfl⟩ := ex1 (e := 199) hd
  refine v177_0 ⟨fun h => ?_, fun h0 => ⟨fun h => ?_, fun h1 => ⟨fun h => ?_, fun h2 => ⟨fun h => ?_, fun h3 => ⟨fun h => ?_, fun h4 => ⟨fun h => ?_, fun h5 => ?_⟩⟩⟩⟩⟩⟩
  · subst h
    exact k _ M rfl (fun f2 k2 => v295_0 ⟨fun _ => by rw [hV.2.1]; exact k2 M hI rfl, fun h => absurd rfl h⟩)
  · subst h
    exact k _ M rfl (fun f2 k2 => v295_0 ⟨fun h => absurd h (by decide), fun _ => ⟨fun _ => by rw [hSc.2.1]; exact k2 M hI rfl, fun h => absurd rfl h⟩⟩)
  · subst h
    exact k _ M rfl (fun f2 k2 => v295_0 ⟨fun h => absurd h (by decide), fun _ => ⟨fun h => absurd h (by decide), fun _ => ⟨fun _ => by rw [hT.2.1]; exact k2 M hI rfl, fun h => absurd rfl h⟩⟩⟩)
  · subst h
    exact k _ M rfl (fun f2 k2 => v295_0 ⟨fun h => absurd h (by decide), fun _ => ⟨fun h => absurd h (by decide), fun _ => ⟨fun h => absurd h (by decide), fun _ => ⟨fun _ => by rw [hC.2.2.1]; exact k2 M hI rfl, fun h => absurd rfl h⟩⟩⟩⟩)
  · subst h
    exact k _ M rfl (fun f2 k2 => v295_0 ⟨fun h => absurd h (by decide), fun _ => ⟨fun h => absurd h (by decide), fun _ => ⟨fun h => absurd h (by decide), fun _ => ⟨fun h => absurd h (by decide), fun _ => ⟨fun _ => by rw [hA.2.1]; exact k2 M hI rfl, fun h => absurd rfl h⟩⟩⟩⟩⟩)
  · subst h
    exact k _ M rfl (fun f2 k2 => v295_0 ⟨fun h => absurd h (by decide), fun _ => ⟨fun h => absurd h (by decide), fun _ => ⟨fun h => absurd h (by decide), fun _ => ⟨fun h => absurd h (by decide), fun _ => ⟨fun h => absurd h (by decide), fun _ => ⟨fun _ => by rw [hA.2.2.2.2.1]; exact k2 M hI rfl, fun h => absurd rfl h⟩⟩⟩⟩⟩⟩)
  · exact k _ M rfl (fun f2 k2 => v295_0 ⟨fun h => absurd h h0, fun _ => ⟨fun h => absurd h h1, fun _ => ⟨fun h => absurd h h2, fun _ => ⟨fun h => absurd h h3, fun _ => ⟨fun h => absurd h h4, fun _ => ⟨fun h => absurd h h5, fun _ => k2 M hI rfl⟩⟩⟩⟩⟩⟩)
/-- led -/
theorem P_led (hI : INV b M) {x : Int32} : PAIR b M 149 275 [.ref 4, .int x] [.ref 67, .int x] := by
  obtain ⟨hS, hH, hV, hSc, hL, hC, hA, hSh, hT, hLw⟩ := id hI
  intro d hd f k
  obtain ⟨d, rfl⟩ := ex1 (e := 199) hd
  have hin : ∀ n, n < 5 → ix x = n → f (gI M 33 n) (FR b, M) := by
    intro n hn hx
    refine k _ M rfl (fun f2 k2 => v275_0 (c180n 4 (by omega) rfl (by decide) ⟨rfl, brK_b (fun h => ?_) (fun h => iK_i (by omega) ?_)⟩))
    · exact absurd (rg_f.mp h) (by omega)
    · rw [hx, hL.1 n hn]
      exact k2 M hI rfl
  refine v149_0 ⟨fun h => ?_, fun h0 => ⟨fun h => ?_, fun h1 => ⟨fun h => ?_, fun h2 => ⟨fun h => ?_, fun h3 => ⟨fun h => ?_, fun h4 => ?_⟩⟩⟩⟩⟩
  · subst h; exact hin 0 (by decide) rfl
  · subst h; exact hin 1 (by decide) rfl
  · subst h; exact hin 2 (by decide) rfl
  · subst h; exact hin 3 (by decide) rfl
  · subst h; exact hin 4 (by decide) rfl
  · refine k _ M rfl (fun f2 k2 => v275_0 (c180n 4 (by omega) rfl (by decide) ⟨rfl, brK_b (fun h => k2 M hI rfl) (fun h => ?_)⟩))
    have := rg_tt h
    have a0 : ix x ≠ 0 := ix_lit h0
    have a1 : ix x ≠ 1 := ix_lit h1
    have a2 : ix x ≠ 2 := ix_lit h2
    have a3 : ix x ≠ 3 := ix_lit h3
    have a4 : ix x ≠ 4 := ix_lit h4
    omega
/-- what is told, in both -/
theorem told_eq (hI : INV b M) {w n : Nat} (hw : w < 11) (hn : n < lnW w) : gI M (mtC w) (tldJ w n) = gI M (tldC w) (tldJ w n) := by
  obtain ⟨hS, hH, hV, hSc, hL, hC, hA, hSh, hT, hLw⟩ := id hI
  have : w < 7 ∨ w = 7 ∨ w = 8 ∨ w = 9 ∨ w = 10 := by omega
  rcases this with h | h | h | h | h
  · have hb : Nat.blt w 7 = true := Nat.ble_eq_true_of_le h
    unfold mtC tldC tldJ
    rw [hb]
    exact hH.2 w h
  · subst h; exact (hV.2.2 n hn).2.1
  · subst h; exact (hV.2.2 n hn).2.2.1
  · subst h; exact (hV.2.2 n hn).2.2.2.1
  · subst h; exact (hSc.2.2 n hn).2
theorem isOne_eq (hI : INV b M) {n w : Int32} : isOneV M n w = isTld M n w := by
  unfold isOneV isTld
  rw [hI.2.2.1.2.1, hI.2.2.2.1.2.1]
theorem tld_lt (hI : INV b M) {n w : Int32} (h : isTld M n w = true) : ix w < 11 ∧ ix n < lnW (ix w) := by
  unfold isTld at h
  have h11 : rg w 11 = true := by
    cases hr : rg w 11 with
    | true => rfl
    | false => rw [hr] at h; exact h
  have hw := rg_tt h11
  rw [h11] at h
  refine ⟨hw, ?_⟩
  have hV := hI.2.2.1.1
  have hSc := hI.2.2.2.1.1
  cases h7 : rg w 7 with
  | true =>
    rw [h7] at h
    have h0 : n = 0 := of_decide_eq_true h
    have := rg_tt h7
    subst h0
    unfold lnW
    rw [show Nat.blt (ix w) 7 = true from Nat.ble_eq_true_of_le this]
    exact Nat.zero_lt_one
  | false =>
    rw [h7] at h
    have := rg_f.mp h7
    have hb : Nat.blt (ix w) 7 = false := by
      cases hb : Nat.blt (ix w) 7 with
      | false => rfl
      | true => have := Nat.le_of_ble_eq_true hb; omega
    cases h10 : decide (w = 10) with
    | true =>
      rw [h10] at h
      have e : w = 10 := of_decide_eq_true h10
      subst e
      have := rg_tt h
      show ix n < 5
      omega
    | false =>
      rw [h10] at h
      have e := ix_lit (of_decide_eq_false h10)
      rw [show ix 10 = 10 from rfl] at e
      have := rg_tt h
      have hq : Nat.beq (ix w) 10 = false := by
        cases hq : Nat.beq (ix w) 10 with
        | false => rfl
        | true => exact absurd (Nat.eq_of_beq_eq_true hq) e
      unfold lnW
      rw [hb, hq]
      show ix n < 6
      omega
/-- of -/
theorem P_of (hI : INV b M) {n w : Int32} : PAIR b M 35 196 [.ref 4, .int n, .int w] [.ref 67, .int n, .int w] := by
  obtain ⟨hS, hH, hV, hSc, hL, hC, hA, hSh, hT, hLw⟩ := id hI
  have n1 := nn_of hSc.1 (by decide)
  have n2 := nn_of hV.1 (by decide)
  have m1 : 0 ≤ (gI M 67 7).toInt := by rw [hSc.2.1]; exact n1
  have m2 : 0 ≤ (gI M 67 2).toInt := by rw [hV.2.1]; exact n2
  intro d hd f k
  obtain ⟨d, rfl⟩ := ex1 (e := 199) hd
  refine v35_0 ⟨fun h => c27 (by omega) n2 ⟨rfl, brK_b (fun q => ?_) (fun q => ?_)⟩, fun h => c25 (by omega) n1 n2 ⟨rfl, brK_b (fun q => ?_) (fun q => ?_)⟩⟩
  · refine k _ M rfl (fun f2 k2 => v196_0 (brK_t h (c190 (by omega) m2 ⟨rfl, ?_⟩)))
    rw [hV.2.1, q]
    exact brK_b (fun _ => k2 M hI rfl) (fun q => absurd q (by decide))
  · have hq := rg_tt q
    refine c15 (by omega) (by decide) (Or.inl rfl) ⟨rfl, k _ M rfl (fun f2 k2 => v196_0 (brK_t h (c190 (by omega) m2 ⟨rfl, ?_⟩)))⟩
    rw [hV.2.1, q]
    refine brK_b (fun q => absurd q (by decide)) (fun _ => iK_i (by have := hV.1; omega) ?_)
    rw [(hV.2.2 (ix n) (by have := hV.1; omega)).2.2.2.2]
    have e : atV M 22 n = gI M 22 (ix n) := by
      unfold atV
      rw [rg_t.mpr (show ix n < ln 22 from by show ix n < 6; have := hV.1; omega)]
      rfl
    rw [← e]
    exact k2 M hI rfl
  · refine k _ M rfl (fun f2 k2 => v196_0 (brK_f h (c189 (by omega) m1 m2 ⟨rfl, ?_⟩)))
    rw [isOne_eq hI, q]
    exact brK_b (fun _ => k2 M hI rfl) (fun q => absurd q (by decide))
  · have hq := tld_lt hI q
    refine c28 (by omega) hq.1 hq.2 ⟨rfl, k _ M rfl (fun f2 k2 => v196_0 (brK_f h (c189 (by omega) m1 m2 ⟨rfl, ?_⟩)))⟩
    rw [isOne_eq hI, q]
    refine brK_b (fun q => absurd q (by decide)) (fun _ => c195 (by omega) hq.1 hq.2 ⟨rfl, ?_⟩)
    rw [told_eq hI hq.1 hq.2]
    exact k2 M hI rfl
end PAIRS
