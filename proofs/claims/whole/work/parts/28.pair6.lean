section PAIRS
variable {b : Bool} {M : M2}
theorem A2 {a c k : Nat} {v : Int32} (q : Nat → Nat → Bool) (h1 : ∀ j, q a j = false) (h2 : ∀ j, q c j = false) : agr q M (sI (sI M a k v) c k v) := agr_sI (h2 _) (agr_sI (h1 _) (agr_r M))
theorem INV_tell (hI : INV b M) {w n : Nat} (hw : w < 11) (hn : n < lnW w) {v : Int32} (hv : ix v < GR w) : INV b (sI (sI M (tldC w) (tldJ w n) v) (mtC w) (tldJ w n) v) := by
  obtain ⟨hS, hH, hV, hSc, hL, hC, hA, hSh, hT, hLw⟩ := id hI
  have : w < 7 ∨ w = 7 ∨ w = 8 ∨ w = 9 ∨ w = 10 := by omega
  rcases this with h | h | h | h | h
  · have hb : Nat.blt w 7 = true := Nat.ble_eq_true_of_le h
    have e1 : tldC w = 5 := by unfold tldC; rw [hb]; rfl
    have e2 : tldJ w n = w := by unfold tldJ; rw [hb]; rfl
    have e3 : mtC w = 68 := by unfold mtC; rw [hb]; rfl
    rw [e1, e2, e3]
    refine ⟨StatW_a (A2 _ (fun _ => rfl) (fun _ => rfl)) hS, ⟨fun j hj => ?_, fun j hj => ?_⟩, VilR_a (A2 _ (fun _ => rfl) (fun _ => rfl)) hV, SchR_a (A2 _ (fun _ => rfl) (fun _ => rfl)) hSc, LedR_a (A2 _ (fun _ => rfl) (fun _ => rfl)) hL, ChgR_a (A2 _ (fun _ => rfl) (fun _ => rfl)) hC, ActR_a (A2 _ (fun _ => rfl) (fun _ => rfl)) hA, ShfR_a (A2 _ (fun _ => rfl) (fun _ => rfl)) hSh, TapR_a (A2 _ (fun _ => rfl) (fun _ => rfl)) hT, LawR_a (A2 _ (fun _ => by cases b <;> rfl) (fun _ => by cases b <;> rfl)) hLw⟩
    · by_cases hjc : j = w
      · subst hjc; simp [gI_if]; exact hv
      · simp [gI_if, hjc]; exact hH.1 j hj
    · by_cases hjc : j = w
      · subst hjc; simp [gI_if]
      · simp [gI_if, hjc]; exact hH.2 j hj
  · subst h
    show INV b (sI (sI M 19 n v) 69 n v)
    refine ⟨StatW_a (A2 _ (fun _ => rfl) (fun _ => rfl)) hS, HimR_a (A2 _ (fun _ => rfl) (fun _ => rfl)) hH, ⟨hV.1, hV.2.1, fun j hj => ?_⟩, SchR_a (A2 _ (fun _ => rfl) (fun _ => rfl)) hSc, LedR_a (A2 _ (fun _ => rfl) (fun _ => rfl)) hL, ChgR_a (A2 _ (fun _ => rfl) (fun _ => rfl)) hC, ActR_a (A2 _ (fun _ => rfl) (fun _ => rfl)) hA, ShfR_a (A2 _ (fun _ => rfl) (fun _ => rfl)) hSh, TapR_a (A2 _ (fun _ => rfl) (fun _ => rfl)) hT, LawR_a (A2 _ (fun _ => by cases b <;> rfl) (fun _ => by cases b <;> rfl)) hLw⟩
    have q := hV.2.2 j hj
    by_cases hjc : j = n
    · subst hjc
      refine ⟨⟨?_, q.1.2.1, q.1.2.2.1, q.1.2.2.2⟩, ?_, q.2.2.1, q.2.2.2.1, q.2.2.2.2⟩
      · simp [gI_if]; exact hv
      · simp [gI_if]
    · refine ⟨⟨?_, q.1.2.1, q.1.2.2.1, q.1.2.2.2⟩, ?_, q.2.2.1, q.2.2.2.1, q.2.2.2.2⟩
      · simp [gI_if, hjc]; exact q.1.1
      · simp [gI_if, hjc]; exact q.2.1
  · subst h
    show INV b (sI (sI M 20 n v) 70 n v)
    refine ⟨StatW_a (A2 _ (fun _ => rfl) (fun _ => rfl)) hS, HimR_a (A2 _ (fun _ => rfl) (fun _ => rfl)) hH, ⟨hV.1, hV.2.1, fun j hj => ?_⟩, SchR_a (A2 _ (fun _ => rfl) (fun _ => rfl)) hSc, LedR_a (A2 _ (fun _ => rfl) (fun _ => rfl)) hL, ChgR_a (A2 _ (fun _ => rfl) (fun _ => rfl)) hC, ActR_a (A2 _ (fun _ => rfl) (fun _ => rfl)) hA, ShfR_a (A2 _ (fun _ => rfl) (fun _ => rfl)) hSh, TapR_a (A2 _ (fun _ => rfl) (fun _ => rfl)) hT, LawR_a (A2 _ (fun _ => by cases b <;> rfl) (fun _ => by cases b <;> rfl)) hLw⟩
    have q := hV.2.2 j hj
    by_cases hjc : j = n
    · subst hjc
      refine ⟨⟨q.1.1, ?_, q.1.2.2.1, q.1.2.2.2⟩, q.2.1, ?_, q.2.2.2.1, q.2.2.2.2⟩
      · simp [gI_if]; exact hv
      · simp [gI_if]
    · refine ⟨⟨q.1.1, ?_, q.1.2.2.1, q.1.2.2.2⟩, q.2.1, ?_, q.2.2.2.1, q.2.2.2.2⟩
      · simp [gI_if, hjc]; exact q.1.2.1
      · simp [gI_if, hjc]; exact q.2.2.1
  · subst h
    show INV b (sI (sI M 21 n v) 71 n v)
    refine ⟨StatW_a (A2 _ (fun _ => rfl) (fun _ => rfl)) hS, HimR_a (A2 _ (fun _ => rfl) (fun _ => rfl)) hH, ⟨hV.1, hV.2.1, fun j hj => ?_⟩, SchR_a (A2 _ (fun _ => rfl) (fun _ => rfl)) hSc, LedR_a (A2 _ (fun _ => rfl) (fun _ => rfl)) hL, ChgR_a (A2 _ (fun _ => rfl) (fun _ => rfl)) hC, ActR_a (A2 _ (fun _ => rfl) (fun _ => rfl)) hA, ShfR_a (A2 _ (fun _ => rfl) (fun _ => rfl)) hSh, TapR_a (A2 _ (fun _ => rfl) (fun _ => rfl)) hT, LawR_a (A2 _ (fun _ => by cases b <;> rfl) (fun _ => by cases b <;> rfl)) hLw⟩
    have q := hV.2.2 j hj
    by_cases hjc : j = n
    · subst hjc
      refine ⟨⟨q.1.1, q.1.2.1, ?_, q.1.2.2.2⟩, q.2.1, q.2.2.1, ?_, q.2.2.2.2⟩
      · simp [gI_if]; exact hv
      · simp [gI_if]
    · refine ⟨⟨q.1.1, q.1.2.1, ?_, q.1.2.2.2⟩, q.2.1, q.2.2.1, ?_, q.2.2.2.2⟩
      · simp [gI_if, hjc]; exact q.1.2.2.1
      · simp [gI_if, hjc]; exact q.2.2.2.1
  · subst h
    show INV b (sI (sI M 27 n v) 73 n v)
    refine ⟨StatW_a (A2 _ (fun _ => rfl) (fun _ => rfl)) hS, HimR_a (A2 _ (fun _ => rfl) (fun _ => rfl)) hH, VilR_a (A2 _ (fun _ => rfl) (fun _ => rfl)) hV, ⟨hSc.1, hSc.2.1, fun j hj => ?_⟩, LedR_a (A2 _ (fun _ => rfl) (fun _ => rfl)) hL, ChgR_a (A2 _ (fun _ => rfl) (fun _ => rfl)) hC, ActR_a (A2 _ (fun _ => rfl) (fun _ => rfl)) hA, ShfR_a (A2 _ (fun _ => rfl) (fun _ => rfl)) hSh, TapR_a (A2 _ (fun _ => rfl) (fun _ => rfl)) hT, LawR_a (A2 _ (fun _ => by cases b <;> rfl) (fun _ => by cases b <;> rfl)) hLw⟩
    have q := hSc.2.2 j hj
    by_cases hjc : j = n
    · subst hjc
      refine ⟨?_, ?_⟩
      · simp [gI_if]; exact hv
      · simp [gI_if]
    · refine ⟨?_, ?_⟩
      · simp [gI_if, hjc]; exact q.1
      · simp [gI_if, hjc]; exact q.2
theorem sI_comm (N : M2) {r k r' k' : Nat} {v v' : Int32} (h : ¬ (r = r' ∧ k = k')) : sI (sI N r k v) r' k' v' = sI (sI N r' k' v') r k v := by
  unfold sI
  congr 1
  funext a j
  show (if a = r' ∧ j = k' then v' else if a = r ∧ j = k then v else N.1 a j) = if a = r ∧ j = k then v else if a = r' ∧ j = k' then v' else N.1 a j
  by_cases h1 : a = r' ∧ j = k'
  · by_cases h2 : a = r ∧ j = k
    · exact absurd ⟨h2.1.symm.trans h1.1, h2.2.symm.trans h1.2⟩ h
    · rw [if_pos h1, if_neg h2, if_pos h1]
  · by_cases h2 : a = r ∧ j = k
    · rw [if_neg h1, if_pos h2, if_pos h2]
    · rw [if_neg h1, if_neg h2, if_neg h2, if_neg h1]
theorem tldC_ne : ∀ w, w < 11 → tldC w ≠ 67 ∧ tldC w ≠ 35 ∧ mtC w ≠ 35 ∧ mtC w ≠ 67 ∧ tldC w < 35 ∧ tldC w ≠ 3 ∧ mtC w ≠ 3 := by decide
theorem gI_f3 {M : M2} {r k : Nat} {v : Int32} (h : r ≠ 3) : gI (sI M r k v) 3 = gI M 3 := gI_ne (fun q => h q.symm)
/-- the changes' counts alone are other -/
theorem INV_chg (hI : INV b M) {x y u : Int32} (h1 : ix x ≤ ix (gI M 35 1)) (h2 : u = gI M 35 1 - x) (h3 : y = x) : INV b (sI (sI (sI M 35 0 x) 67 9 y) 67 10 u) := by
  obtain ⟨hS, hH, hV, hSc, hL, hC, hA, hSh, hT, hLw⟩ := id hI
  have A : ∀ q : Nat → Nat → Bool, q 35 0 = false → q 67 9 = false → q 67 10 = false → agr q M (sI (sI (sI M 35 0 x) 67 9 y) 67 10 u) :=
    fun q h1 h2 h3 => agr_sI h3 (agr_sI h2 (agr_sI h1 (agr_r M)))
  refine ⟨StatW_a (A _ rfl rfl rfl) hS, HimR_a (A _ rfl rfl rfl) hH, VilR_a (A _ rfl rfl rfl) hV, SchR_a (A _ rfl rfl rfl) hSc, LedR_a (A _ rfl rfl rfl) hL, ⟨hC.1, h1, h3, h2, hC.2.2.2.2⟩, ActR_a (A _ rfl rfl rfl) hA, ShfR_a (A _ rfl rfl rfl) hSh, TapR_a (A _ rfl rfl rfl) hT, LawR_a (A _ (by cases b <;> rfl) (by cases b <;> rfl) (by cases b <;> rfl)) hLw⟩
theorem sub_one_eq (k x : Int32) : k - x + 1 = k - (x - 1) := by
  apply Int32.toBitVec_inj.mp
  show k.toBitVec - x.toBitVec + 1#32 = k.toBitVec - (x.toBitVec - 1#32)
  bv_omega
theorem add_one_eq (k x : Int32) : k - x - 1 = k - (x + 1) := by
  apply Int32.toBitVec_inj.mp
  show k.toBitVec - x.toBitVec - 1#32 = k.toBitVec - (x.toBitVec + 1#32)
  bv_omega
theorem add_sub1 (x : Int32) : x + 1 - 1 = x := by
  apply Int32.toBitVec_inj.mp
  show x.toBitVec + 1#32 - 1#32 = x.toBitVec
  bv_omega
theorem sub_z {k x : Int32} : k - x = 0 ↔ k = x := by
  constructor
  · intro h
    have := congrArg Int32.toBitVec h
    apply Int32.toBitVec_inj.mp
    have e : k.toBitVec - x.toBitVec = 0#32 := this
    bv_omega
  · intro h
    subst h
    apply Int32.toBitVec_inj.mp
    show k.toBitVec - k.toBitVec = 0#32
    bv_omega
theorem atV_t {M : M2} {r : Nat} {i : Int32} (h : ix i < ln r) : atV M r i = gI M r (ix i) := by
  unfold atV
  rw [rg_t.mpr h]
  rfl
theorem n_zero {v : Int32} (h : ¬ v = 0) : 0 < ix v := by
  have := ix_lit h
  rw [show ix 0 = 0 from rfl] at this
  omega
theorem P_undo (hI : INV b M) : PAIR b M 154 185 [.ref 4, U] [.ref 67] := by
  obtain ⟨hS, hH, hV, hSc, hL, hC, hA, hSh, hT, hLw⟩ := id hI
  intro d hd f k
  obtain ⟨d, rfl⟩ := ex1 (e := 199) hd
  obtain ⟨d, rfl⟩ := ex1 (e := 198) (d := d) (by omega)
  refine v154_0 (v155_0 ⟨fun h => ⟨rfl, brK_f (by decide) ?_⟩, fun h => ⟨rfl, ?_⟩⟩)
  · exact k _ M rfl (fun f2 k2 => v185_0 (brK_t (hC.2.2.1.trans h) (k2 M hI rfl)))
  · have hz := n_zero h
    have hp := ix_pred hz
    have h40 := hC.1
    have hle := hC.2.1
    have hj : ix (gI M 35 0 - 1) < 40 := by omega
    have hq := hC.2.2.2.2 _ hj
    have e9 : gI M 67 9 = gI M 35 0 := hC.2.2.1
    have e10 : gI M 67 10 = gI M 35 1 - gI M 35 0 := hC.2.2.2.1
    have hne := tldC_ne _ hq.1.1
    refine brK_t (by have := ix_t (gI M 35 0 - 1); rw [i_le, z_toInt]; omega) (c15 (by omega) (by decide) (Or.inl rfl) ⟨rfl, c15 (by omega) (by decide) (Or.inl rfl) ⟨rfl, c15 (by omega) (by decide) (Or.inl rfl) ⟨rfl, ?_⟩⟩⟩)
    rw [atV_t (show ix (gI M 35 0 - 1) < ln 36 from hj), atV_t (show ix (gI M 35 0 - 1) < ln 37 from hj), atV_t (show ix (gI M 35 0 - 1) < ln 38 from hj)]
    refine c31 (by omega) hq.1.1 hq.1.2.1 ⟨rfl, ?_⟩
    have ev : gI (sI (sI M 35 0 (gI M 35 0 - 1)) (tldC (ix (gI M 37 (ix (gI M 35 0 - 1))))) (tldJ (ix (gI M 37 (ix (gI M 35 0 - 1)))) (ix (gI M 36 (ix (gI M 35 0 - 1))))) (gI M 38 (ix (gI M 35 0 - 1)))) 35 0 = gI M 35 0 - 1 := by
      rw [gI_or (fun q => hne.2.1 q.symm), gI_s]
    obtain ⟨w, hw⟩ : ∃ w, w = gI M 37 (ix (gI M 35 0 - 1)) := ⟨_, rfl⟩
    obtain ⟨n, hn⟩ : ∃ n, n = gI M 36 (ix (gI M 35 0 - 1)) := ⟨_, rfl⟩
    obtain ⟨v, hv⟩ : ∃ v, v = gI M 38 (ix (gI M 35 0 - 1)) := ⟨_, rfl⟩
    rw [← hw, ← hn, ← hv] at ev hq
    rw [← hw] at hne
    show f (gI (sI (sI M 35 0 (gI M 35 0 - 1)) (tldC (ix (gI M 37 (ix (gI M 35 0 - 1))))) (tldJ (ix (gI M 37 (ix (gI M 35 0 - 1)))) (ix (gI M 36 (ix (gI M 35 0 - 1))))) (gI M 38 (ix (gI M 35 0 - 1)))) 35 0) (FR b, sI (sI M 35 0 (gI M 35 0 - 1)) (tldC (ix (gI M 37 (ix (gI M 35 0 - 1))))) (tldJ (ix (gI M 37 (ix (gI M 35 0 - 1)))) (ix (gI M 36 (ix (gI M 35 0 - 1))))) (gI M 38 (ix (gI M 35 0 - 1))))
    rw [← hw, ← hn, ← hv]
    obtain ⟨N, hN⟩ : ∃ N, N = sI (sI M 35 0 (gI M 35 0 - 1)) (tldC (ix w)) (tldJ (ix w) (ix n)) v := ⟨_, rfl⟩
    rw [← hN] at ev
    rw [← hN]
    show f (gI N 35 0) (FR b, N)
    rw [ev]
    have hf : ∀ r j, 67 ≤ r → gI N r j = gI M r j := by
      intro r j hr
      rw [hN, gI_or (by omega), gI_or (by omega)]
    have h3 : gI N 3 = gI M 3 := by rw [hN, gI_f3 hne.2.2.2.2.2.1, gI_f3 (by decide)]
    refine k _ N h3 (fun f2 k2 => v185_0 ?_)
    rw [hf 67 9 (by decide), hf 67 10 (by decide), hf 74 _ (by decide), hf 75 _ (by decide), hf 76 _ (by decide), e9, e10, hq.2.1, hq.2.2.1, hq.2.2.2.1]
    refine brK_f h (iK_i hj (iK_i hj (iK_i hj (c186 (by omega) hq.1.1 hq.1.2.1 ⟨rfl, ?_⟩))))
    have ea : gI (sI (sI (sI N 67 9 (gI M 35 0 - 1)) 67 10 (gI M 35 1 - gI M 35 0 + 1)) (mtC (ix w)) (tldJ (ix w) (ix n)) v) 67 9 = gI M 35 0 - 1 := by
      rw [gI_or (fun q => hne.2.2.2.1 q.symm), gI_oj (by decide), gI_s]
    show f2 (gI (sI (sI (sI N 67 9 (gI M 35 0 - 1)) 67 10 (gI M 35 1 - gI M 35 0 + 1)) (mtC (ix w)) (tldJ (ix w) (ix n)) v) 67 9) _
    rw [ea]
    refine k2 _ ?_ ?_
    · have i1 := INV_chg hI (x := gI M 35 0 - 1) (y := gI M 35 0 - 1) (u := gI M 35 1 - gI M 35 0 + 1) (by omega) (sub_one_eq _ _) rfl
      have i2 := INV_tell i1 hq.1.1 hq.1.2.1 hq.1.2.2.1
      rw [hN, sI_comm (sI M 35 0 (gI M 35 0 - 1)) (fun q => hne.1 q.1), sI_comm (sI (sI M 35 0 (gI M 35 0 - 1)) 67 9 _) (fun q => hne.1 q.1)]
      exact i2
    · rw [gI_f3 hne.2.2.2.2.2.2, gI_f3 (by decide), gI_f3 (by decide), h3]
theorem P_redo (hI : INV b M) : PAIR b M 156 187 [.ref 4, U] [.ref 67] := by
  obtain ⟨hS, hH, hV, hSc, hL, hC, hA, hSh, hT, hLw⟩ := id hI
  intro d hd f k
  obtain ⟨d, rfl⟩ := ex1 (e := 199) hd
  obtain ⟨d, rfl⟩ := ex1 (e := 198) (d := d) (by omega)
  have e9 : gI M 67 9 = gI M 35 0 := hC.2.2.1
  have e10 : gI M 67 10 = gI M 35 1 - gI M 35 0 := hC.2.2.2.1
  refine v156_0 (v157_0 ⟨fun h => ⟨rfl, brK_f (by decide) ?_⟩, fun h => ⟨rfl, ?_⟩⟩)
  · exact k _ M rfl (fun f2 k2 => v187_0 (brK_t (e10.trans (sub_z.mpr h.symm)) (k2 M hI rfl)))
  · have h40 := hC.1
    have hle := hC.2.1
    have hj : ix (gI M 35 0) < 40 := by
      have := ix_lit h
      omega
    have hs := ix_succ (v := gI M 35 0) (by omega)
    have hq := hC.2.2.2.2 _ hj
    have hne := tldC_ne _ hq.1.1
    rw [add_sub1]
    refine brK_t (by have := ix_t (gI M 35 0); rw [i_le, z_toInt]; omega) (c15 (by omega) (by decide) (Or.inl rfl) ⟨rfl, c15 (by omega) (by decide) (Or.inl rfl) ⟨rfl, c15 (by omega) (by decide) (Or.inl rfl) ⟨rfl, ?_⟩⟩⟩)
    rw [atV_t (show ix (gI M 35 0) < ln 36 from hj), atV_t (show ix (gI M 35 0) < ln 37 from hj), atV_t (show ix (gI M 35 0) < ln 39 from hj)]
    refine c31 (by omega) hq.1.1 hq.1.2.1 ⟨rfl, ?_⟩
    have ev : gI (sI (sI M 35 0 (gI M 35 0 + 1)) (tldC (ix (gI M 37 (ix (gI M 35 0))))) (tldJ (ix (gI M 37 (ix (gI M 35 0)))) (ix (gI M 36 (ix (gI M 35 0))))) (gI M 39 (ix (gI M 35 0)))) 35 0 = gI M 35 0 + 1 := by
      rw [gI_or (fun q => hne.2.1 q.symm), gI_s]
    have ev2 : gI (sI (sI M 35 0 (gI M 35 0 + 1)) (tldC (ix (gI M 37 (ix (gI M 35 0))))) (tldJ (ix (gI M 37 (ix (gI M 35 0)))) (ix (gI M 36 (ix (gI M 35 0))))) (gI M 39 (ix (gI M 35 0)))) 35 1 = gI M 35 1 := by
      rw [gI_or (fun q => hne.2.1 q.symm), gI_oj (by decide)]
    obtain ⟨w, hw⟩ : ∃ w, w = gI M 37 (ix (gI M 35 0)) := ⟨_, rfl⟩
    obtain ⟨n, hn⟩ : ∃ n, n = gI M 36 (ix (gI M 35 0)) := ⟨_, rfl⟩
    obtain ⟨v, hv⟩ : ∃ v, v = gI M 39 (ix (gI M 35 0)) := ⟨_, rfl⟩
    rw [← hw, ← hn, ← hv] at ev ev2 hq
    rw [← hw] at hne
    show f (gI (sI (sI M 35 0 (gI M 35 0 + 1)) (tldC (ix (gI M 37 (ix (gI M 35 0))))) (tldJ (ix (gI M 37 (ix (gI M 35 0)))) (ix (gI M 36 (ix (gI M 35 0))))) (gI M 39 (ix (gI M 35 0)))) 35 1 - gI (sI (sI M 35 0 (gI M 35 0 + 1)) (tldC (ix (gI M 37 (ix (gI M 35 0))))) (tldJ (ix (gI M 37 (ix (gI M 35 0)))) (ix (gI M 36 (ix (gI M 35 0))))) (gI M 39 (ix (gI M 35 0)))) 35 0) (FR b, sI (sI M 35 0 (gI M 35 0 + 1)) (tldC (ix (gI M 37 (ix (gI M 35 0))))) (tldJ (ix (gI M 37 (ix (gI M 35 0)))) (ix (gI M 36 (ix (gI M 35 0))))) (gI M 39 (ix (gI M 35 0))))
    rw [← hw, ← hn, ← hv]
    obtain ⟨N, hN⟩ : ∃ N, N = sI (sI M 35 0 (gI M 35 0 + 1)) (tldC (ix w)) (tldJ (ix w) (ix n)) v := ⟨_, rfl⟩
    rw [← hN] at ev ev2
    rw [← hN]
    show f (gI N 35 1 - gI N 35 0) (FR b, N)
    rw [ev, ev2]
    have hf : ∀ r j, 67 ≤ r → gI N r j = gI M r j := by
      intro r j hr
      rw [hN, gI_or (by omega), gI_or (by omega)]
    have h3 : gI N 3 = gI M 3 := by rw [hN, gI_f3 hne.2.2.2.2.2.1, gI_f3 (by decide)]
    refine k _ N h3 (fun f2 k2 => v187_0 ?_)
    rw [hf 67 9 (by decide), hf 67 10 (by decide), hf 74 _ (by decide), hf 75 _ (by decide), hf 77 _ (by decide), e9, e10, hq.2.1, hq.2.2.1, hq.2.2.2.2]
    refine brK_f (fun q => h (sub_z.mp q).symm) (iK_i hj (iK_i hj (iK_i hj (c186 (by omega) hq.1.1 hq.1.2.1 ⟨rfl, ?_⟩))))
    have e1 : gI (sI N (mtC (ix w)) (tldJ (ix w) (ix n)) v) 67 9 = gI M 35 0 := by
      rw [gI_or (fun q => hne.2.2.2.1 q.symm), hf 67 9 (by decide), e9]
    have e2 : gI (sI N (mtC (ix w)) (tldJ (ix w) (ix n)) v) 67 10 = gI M 35 1 - gI M 35 0 := by
      rw [gI_or (fun q => hne.2.2.2.1 q.symm), hf 67 10 (by decide), e10]
    show f2 (gI (sI N (mtC (ix w)) (tldJ (ix w) (ix n)) v) 67 10 - 1) (FR b, sI (sI (sI N (mtC (ix w)) (tldJ (ix w) (ix n)) v) 67 9 (gI (sI N (mtC (ix w)) (tldJ (ix w) (ix n)) v) 67 9 + 1)) 67 10 (gI (sI N (mtC (ix w)) (tldJ (ix w) (ix n)) v) 67 10 - 1))
    rw [e1, e2, add_one_eq]
    refine k2 _ ?_ ?_
    · have i1 := INV_chg hI (x := gI M 35 0 + 1) (y := gI M 35 0 + 1) (u := gI M 35 1 - (gI M 35 0 + 1)) (by have := ix_lit h; omega) rfl rfl
      have i2 := INV_tell i1 hq.1.1 hq.1.2.1 hq.1.2.2.2
      rw [sI_comm N (fun q => hne.2.2.2.1 q.1), sI_comm (sI N 67 9 _) (fun q => hne.2.2.2.1 q.1), hN, sI_comm (sI M 35 0 (gI M 35 0 + 1)) (fun q => hne.1 q.1), sI_comm (sI (sI M 35 0 (gI M 35 0 + 1)) 67 9 _) (fun q => hne.1 q.1)]
      exact i2
    · rw [gI_f3 (by decide), gI_f3 (by decide), gI_f3 hne.2.2.2.2.2.2, h3]
end PAIRS
