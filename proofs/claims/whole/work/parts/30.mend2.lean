section PAIRS
variable {b : Bool} {M : M2}
theorem agr_sI2 {p : Nat → Nat → Bool} {A B : M2} {r k : Nat} {v : Int32} (h : agr p A B) : agr p (sI A r k v) (sI B r k v) := by
  intro a j q
  refine ⟨?_, (h a j q).2⟩
  rw [gI_if, gI_if, (h a j q).1]
theorem INV_ch {P F : M2} (hI : INV b P) (ha : ∀ q : Nat → Nat → Bool, (∀ j, q 35 j = false) → (∀ j, q 36 j = false) → (∀ j, q 37 j = false) → (∀ j, q 38 j = false) → (∀ j, q 39 j = false) → q 67 9 = false → q 67 10 = false → (∀ j, q 74 j = false) → (∀ j, q 75 j = false) → (∀ j, q 76 j = false) → (∀ j, q 77 j = false) → agr q P F) (hC' : ChgR F F) : INV b F := by
  obtain ⟨hS, hH, hV, hSc, hL, hC, hA, hSh, hT, hLw⟩ := id hI
  exact ⟨StatW_a (ha _ (fun _ => rfl) (fun _ => rfl) (fun _ => rfl) (fun _ => rfl) (fun _ => rfl) rfl rfl (fun _ => rfl) (fun _ => rfl) (fun _ => rfl) (fun _ => rfl)) hS, HimR_a (ha _ (fun _ => rfl) (fun _ => rfl) (fun _ => rfl) (fun _ => rfl) (fun _ => rfl) rfl rfl (fun _ => rfl) (fun _ => rfl) (fun _ => rfl) (fun _ => rfl)) hH, VilR_a (ha _ (fun _ => rfl) (fun _ => rfl) (fun _ => rfl) (fun _ => rfl) (fun _ => rfl) rfl rfl (fun _ => rfl) (fun _ => rfl) (fun _ => rfl) (fun _ => rfl)) hV, SchR_a (ha _ (fun _ => rfl) (fun _ => rfl) (fun _ => rfl) (fun _ => rfl) (fun _ => rfl) rfl rfl (fun _ => rfl) (fun _ => rfl) (fun _ => rfl) (fun _ => rfl)) hSc, LedR_a (ha _ (fun _ => rfl) (fun _ => rfl) (fun _ => rfl) (fun _ => rfl) (fun _ => rfl) rfl rfl (fun _ => rfl) (fun _ => rfl) (fun _ => rfl) (fun _ => rfl)) hL, hC', ActR_a (ha _ (fun _ => rfl) (fun _ => rfl) (fun _ => rfl) (fun _ => rfl) (fun _ => rfl) rfl rfl (fun _ => rfl) (fun _ => rfl) (fun _ => rfl) (fun _ => rfl)) hA, ShfR_a (ha _ (fun _ => rfl) (fun _ => rfl) (fun _ => rfl) (fun _ => rfl) (fun _ => rfl) rfl rfl (fun _ => rfl) (fun _ => rfl) (fun _ => rfl) (fun _ => rfl)) hSh, TapR_a (ha _ (fun _ => rfl) (fun _ => rfl) (fun _ => rfl) (fun _ => rfl) (fun _ => rfl) rfl rfl (fun _ => rfl) (fun _ => rfl) (fun _ => rfl) (fun _ => rfl)) hT, LawR_a (ha _ (fun _ => by cases b <;> rfl) (fun _ => by cases b <;> rfl) (fun _ => by cases b <;> rfl) (fun _ => by cases b <;> rfl) (fun _ => by cases b <;> rfl) (by cases b <;> rfl) (by cases b <;> rfl) (fun _ => by cases b <;> rfl) (fun _ => by cases b <;> rfl) (fun _ => by cases b <;> rfl) (fun _ => by cases b <;> rfl)) hLw⟩
theorem pChg_t : ∀ w, w < 11 → ∀ j, pChg (tldC w) j = false ∧ pChg (mtC w) j = false := by
  intro w hw j
  have : w = 0 ∨ w = 1 ∨ w = 2 ∨ w = 3 ∨ w = 4 ∨ w = 5 ∨ w = 6 ∨ w = 7 ∨ w = 8 ∨ w = 9 ∨ w = 10 := by omega
  rcases this with h | h | h | h | h | h | h | h | h | h | h <;> subst h <;> exact ⟨rfl, rfl⟩
theorem mtC_lt : ∀ w, w < 11 → 68 ≤ mtC w ∧ mtC w < 74 := by decide
theorem P_mend (hI : INV b M) {n w v : Int32} : PAIR b M 24 188 [.ref 4, .int n, .int w, .int v, U] [.ref 67, .int n, .int w, .int v] := by
  obtain ⟨hS, hH, hV, hSc, hL, hC, hA, hSh, hT, hLw⟩ := id hI
  have n1 := nn_of hSc.1 (by decide)
  have n2 := nn_of hV.1 (by decide)
  have m1 : 0 ≤ (gI M 67 7).toInt := by rw [hSc.2.1]; exact n1
  have m2 : 0 ≤ (gI M 67 2).toInt := by rw [hV.2.1]; exact n2
  intro d hd f k
  obtain ⟨d, rfl⟩ := ex1 (e := 199) hd
  refine v24_0 (c25 (by omega) n1 n2 ⟨rfl, brK_b (fun q => ?_) (fun q => ?_)⟩)
  · refine k _ M rfl (fun f2 k2 => v188_0 (c189 (by omega) m1 m2 ⟨rfl, ?_⟩))
    rw [isOne_eq hI, q]
    exact brK_b (fun _ => k2 M hI rfl) (fun q => absurd q (by decide))
  have hq := tld_lt hI q
  have hmt := mtC_lt _ hq.1
  have hne := tldC_ne _ hq.1
  have hpt := pChg_t _ hq.1
  refine c14 (by omega) hS hq.1 ⟨rfl, brK_b (fun hv => ?_) (fun hv => ?_)⟩
  · refine k _ M rfl (fun f2 k2 => v188_0 (c189 (by omega) m1 m2 ⟨rfl, ?_⟩))
    rw [isOne_eq hI, q]
    exact brK_b (fun q => absurd q (by decide)) (fun _ => c192 (by omega) hq.1 ⟨rfl, brK_b (fun _ => k2 M hI rfl) (fun q => ff hv q)⟩)
  have hvG := rg_tt hv
  obtain ⟨t, ht⟩ : ∃ t, t = tldC (ix w) := ⟨_, rfl⟩
  obtain ⟨mt, hm⟩ : ∃ t, t = mtC (ix w) := ⟨_, rfl⟩
  obtain ⟨j, hj⟩ : ∃ t, t = tldJ (ix w) (ix n) := ⟨_, rfl⟩
  have hte := told_eq hI hq.1 hq.2
  have hTell := INV_tell hI hq.1 hq.2 hvG
  refine c28 (by omega) hq.1 hq.2 ⟨rfl, ⟨fun h => ?_, fun h => c31 (by omega) hq.1 hq.2 ⟨rfl, ?_⟩⟩⟩
  · refine k _ M rfl (fun f2 k2 => v188_0 (c189 (by omega) m1 m2 ⟨rfl, ?_⟩))
    rw [isOne_eq hI, q]
    refine brK_b (fun q => absurd q (by decide)) (fun _ => c192 (by omega) hq.1 ⟨rfl, brK_b (fun q => ff q hv) (fun _ => ?_)⟩)
    obtain ⟨d, rfl⟩ := ex1 (e := 198) (d := d) (by omega)
    refine v194_0 (c195 (by omega) hq.1 hq.2 ⟨rfl, ?_⟩)
    rw [hte]
    exact brK_t h ⟨rfl, k2 M hI rfl⟩
  rw [← ht, ← hj] at h
  dsimp only
  rw [← ht, ← hj]
  rw [← ht, ← hm, ← hj] at hTell
  rw [← ht, ← hm, ← hj] at hte
  rw [← hm] at hmt
  rw [← ht, ← hm] at hne hpt
  have hsG : ix (gI M t j) < GR (ix w) := by
    have hw := hq.1
    have : ix w < 7 ∨ ix w = 7 ∨ ix w = 8 ∨ ix w = 9 ∨ ix w = 10 := by omega
    rw [ht, hj]
    rcases this with h | h | h | h | h
    · have hb : Nat.blt (ix w) 7 = true := Nat.ble_eq_true_of_le h
      unfold tldC tldJ
      rw [hb]
      exact hH.1 _ h
    · have hn := hq.2; rw [h] at hn ⊢; exact (hV.2.2 _ hn).1.1
    · have hn := hq.2; rw [h] at hn ⊢; exact (hV.2.2 _ hn).1.2.1
    · have hn := hq.2; rw [h] at hn ⊢; exact (hV.2.2 _ hn).1.2.2.1
    · have hn := hq.2; rw [h] at hn ⊢; exact (hSc.2.2 _ hn).1
  have aT : agr pChg M (sI M t j v) := agr_sI (hpt j).1 (agr_r M)
  have hC1 := ChgR_a aT hC
  have x35 : gI (sI M t j v) 35 0 = gI M 35 0 := gI_or (fun q => hne.2.1 q.symm)
  have hR1 : RW (sI M t j v) := hC1.2.2.2.2
  obtain ⟨s, hs⟩ : ∃ s, s = gI M t j := ⟨_, rfl⟩
  rw [← hs] at h hsG hte ⊢
  obtain ⟨x, hx⟩ : ∃ x, x = gI M 35 0 := ⟨_, rfl⟩
  have hx40 : ix x ≤ 40 := by rw [hx]; have := hC.1; have := hC.2.1; omega
  have e9 : gI M 67 9 = x := by rw [hx]; exact hC.2.2.1
  have hl := lt_n (v := x) (c := 40) (n := 40) rfl (by decide) hx40
  have hmodel : ∀ (N : M2), (∀ r i, 67 ≤ r → gI N r i = gI M r i) → ∀ d, 198 ≤ d → ∀ (f2 : Int32 → Mm → Prop), (∀ d, 197 ≤ d → f2 s (FR b, N) → True) → True := fun _ _ _ _ _ _ => trivial
  sorry
end PAIRS
