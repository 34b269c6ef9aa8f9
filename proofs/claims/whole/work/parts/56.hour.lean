/-! hour -/
def slF (S : M2) (v : Int32) (s : Nat) : Bool := !decide (bitV (gI S 19 s) v = 0) && !decide (gI S 5 5 < gI S 21 s)
def sdW (S : M2) (v : Int32) (n s : Nat) : Int32 := gI S 22 s + bI (decide (s < n) && slF S v s)
def pnW (S : M2) (v : Int32) (n : Nat) : Int32 := sm (fun s => bif slF S v s then gI S 20 s else 0) n
theorem sdW_o {S : M2} {v : Int32} {n s : Nat} (h : ¬ s = n ∨ slF S v s = false) : sdW S v (n + 1) s = sdW S v n s := by
  unfold sdW
  rcases h with h | h
  · rw [show decide (s < n + 1) = decide (s < n) from decide_eq_decide.mpr (by omega)]
  · rw [h, Bool.and_false, Bool.and_false]
theorem sdW_s {S : M2} {v : Int32} {n : Nat} (h : slF S v n = true) : sdW S v (n + 1) n = sdW S v n n + 1 := by
  unfold sdW
  rw [decide_eq_true (show n < n + 1 by omega), decide_eq_false (show ¬ n < n by omega), h]
  show gI S 22 n + 1 = gI S 22 n + 0 + 1
  rw [Int32.add_zero]
section HOUR2
variable {d : Nat} {b : Bool} {S : M2}
theorem c128h {f : Int32 → Mm → Prop} {x t v : Int32} {N : M2} (hd : 2 ≤ d) (hx : ix x < 6) (h19 : gI N 19 (ix x) = gI S 19 (ix x)) (h21 : gI N 21 (ix x) = gI S 21 (ix x)) (ht : t &&& 15 = v) (k : f (bI (slF S v (ix x))) (FR b, N)) : WP d 107 128 0 [.ref 18, .int x, .int t, .int (gI S 5 5)] [] 107 (FR b, N) (rI f) := by
  obtain ⟨d, rfl⟩ := ex1 (e := 1) hd
  have a19 : atV N 19 x = gI S 19 (ix x) := by unfold atV; rw [rg_t.mpr (show ix x < ln 19 from hx)]; exact h19
  have a21 : atV N 21 x = gI S 21 (ix x) := by unfold atV; rw [rg_t.mpr (show ix x < ln 21 from hx)]; exact h21
  unfold slF at k
  refine v128_0 (c15 (by omega) (by decide) (Or.inl rfl) ⟨rfl, ?_⟩)
  rw [a19, ht]
  refine brK_n (fun z => ?_) (fun z => c15 (by omega) (by decide) (Or.inl rfl) ⟨rfl, ?_⟩)
  · have z : (!decide (bitV (gI S 19 (ix x)) v = 0)) = false := z
    rw [z] at k; exact k
  · have z : (!decide (bitV (gI S 19 (ix x)) v = 0)) = true := z
    rw [a21]
    refine brK_n (fun z2 => ?_) (fun z2 => ?_)
    · rw [z, z2] at k; exact k
    · rw [z, z2] at k; exact k
theorem c146 {f : Int32 → Mm → Prop} {t v : Int32} {N : M2} (hd : 3 ≤ d) (hI : INV b S) (hN : agr (fr [17, 5]) S N) (ht : t &&& 15 = v) (q : ∀ N', agr (fr [22]) N N' → (∀ s, s < 6 → gI N' 22 s = sdW S v (cnS S) s) → f (pnW S v (cnS S)) (FR b, N')) : WP d 107 146 0 [.ref 18, .int t, .int (gI S 5 5), U, U] [] 107 (FR b, N) (rI f) := by
  obtain ⟨d, rfl⟩ := ex1 (e := 2) hd
  have hc6 : cnS S ≤ 6 := hI.2.2.1.1
  have l : ∀ m i (N2 : M2), i + m = cnS S → agr (fr [22]) N N2 → (∀ s, s < 6 → gI N2 22 s = sdW S v i s) → WP (d + 1) 107 146 5 [.ref 18, .int t, .int (gI S 5 5), .int (pnW S v i), .int (nI i)] [] 107 (FR b, N2) (rI f) := by
    intro m
    induction m with
    | zero =>
      intro i N2 hi hF hh
      have : i = cnS S := by omega
      subst this
      refine v146_5 (brK_t ?_ (q N2 hF hh))
      rw [agr_nI hF rfl, agr_nI hN rfl]
      unfold cnS
      rw [n_ix, i_le]; exact Int.le_refl _
    | succ m ih =>
      intro i N2 hi hF hh
      have e1 : ix (nI i) = i := ix_n (by omega)
      refine v146_5 (brK_f (fun z => ?_) (brK_f (by rw [show (6 : Int32) = nI 6 from rfl, nI_leI (by decide) (by omega)]; omega) (c128h (S := S) (v := v) (by omega) (by rw [e1]; omega) (by rw [agr_nI hF rfl, agr_nI hN rfl]) (by rw [agr_nI hF rfl, agr_nI hN rfl]) ht ⟨rfl, ?_⟩)))
      · rw [agr_nI hF rfl, agr_nI hN rfl, ← n_ix (gI S 18 0)] at z
        have := (cnt_lt (n := i) (m := cnS S) rfl (by omega) (by omega)).mp z
        omega
      · have ep : pnW S v (i + 1) = pnW S v i + (bif slF S v i then gI S 20 i else 0) := rfl
        rw [e1, nI_1]
        refine brK_b (fun z => ?_) (fun z => iK_i (by rw [e1]; omega) (iK_i (by rw [e1]; omega) (iK_i (by rw [e1]; omega) ?_)))
        · have := ih (i + 1) N2 (by omega) hF (fun s hs => by
            rw [hh s hs]
            by_cases e : s = i
            · subst e; exact (sdW_o (Or.inr z)).symm
            · exact (sdW_o (Or.inl e)).symm)
          rw [ep, z] at this
          have e : pnW S v i + (bif false then gI S 20 i else 0) = pnW S v i := Int32.add_zero _
          rw [e] at this
          exact this
        · dsimp only
          rw [hh i (by omega), show gI N2 20 i = gI S 20 i by rw [agr_nI hF rfl, agr_nI hN rfl]]
          have := ih (i + 1) (sI N2 22 i (sdW S v i i + 1)) (by omega) (agr_sI rfl hF) (fun s hs => by
            by_cases e : s = i
            · subst e; rw [gI_s]; exact (sdW_s z).symm
            · rw [gI_oj e, hh s hs]; exact (sdW_o (Or.inl e)).symm)
          rw [ep, z] at this
          exact this
  exact v146_0 (l (cnS S) 0 N (by omega) (agr_r N) (fun s hs => by
    rw [agr_nI hN rfl]
    unfold sdW
    rw [decide_eq_false (show ¬ s < 0 by omega)]
    exact (Int32.add_zero _).symm))
theorem c147 {g : Mm → Prop} {x p : Int32} {l : Bool} {N : M2} (hd : 1 ≤ d) (q : ∀ N', agr (fr [33]) N N' → gI N' 33 0 = gI N 33 0 + 1 → gI N' 33 1 = gI N 33 1 + bI l → gI N' 33 2 = gI N 33 2 + bI (!decide (x = 0)) → gI N' 33 3 = gI N 33 3 + p → (∀ j, 4 ≤ j → gI N' 33 j = gI N 33 j) → g (FR b, N')) : WP d 107 147 0 [.ref 33, .int (bI l), .int x, .int p] [] 107 (FR b, N) (rV g) := by
  obtain ⟨d, rfl⟩ := ex1 hd
  have fin : ∀ w, w = bI (!decide (x = 0)) → g (FR b, sI (sI (sI (sI N 33 0 (gI N 33 0 + 1)) 33 1 (gI N 33 1 + bI l)) 33 2 (gI N 33 2 + w)) 33 3 (gI N 33 3 + p)) := by
    intro w hw
    subst hw
    refine q _ (agr_sI rfl (agr_sI rfl (agr_sI rfl (agr_sI rfl (agr_r N))))) ?_ ?_ ?_ ?_ (fun j hj => ?_)
    · simp [gI_if]
    · simp [gI_if]
    · simp [gI_if]
    · simp [gI_if]
    · rw [gI_oj (by omega), gI_oj (by omega), gI_oj (by omega), gI_oj (by omega)]
  have go : WP (d + 1) 107 147 24 [.ref 33, .int (bI l), .int x, .int p] [.int (bI l), .int (gI N 33 1), .ref 33] 107 (FR b, sI N 33 0 (gI N 33 0 + 1)) (rV g) := by
    refine v147_24 (brK_n (fun z => ?_) (fun z => ?_))
    · exact fin 0 (by rw [z]; rfl)
    · exact fin 1 (by rw [z]; rfl)
  refine v147_0 ?_
  cases l with
  | false => exact brK_t rfl go
  | true => exact brK_f (by decide) go
theorem fr_pR {l : List Nat} (hl : ∀ a, a ∈ l → a < 67) {N N' : M2} (h : agr (fr l) N N') : agr (pRf b) N N' := fr_m (fun a ha j => by
  unfold pRf
  have := hl a ha
  rw [show Nat.ble 67 a = false from by
    cases hb : Nat.ble 67 a with
    | false => rfl
    | true => have := Nat.le_of_ble_eq_true hb; omega]
  exact Bool.and_false _) h
theorem INV_hour (hI : INV b S) {M2 : M2} {g1 : St} {v : Int32} (hg : SB g1) (hF : agr (fun r j => pC b r j && nin [5, 22, 33, 68, 72, 98] r) S M2) (h5 : HW S M2 5 g1) (h68 : ∀ j, j < 7 → gI M2 68 j = gI M2 5 j) (h22 : ∀ s, s < 6 → gI M2 22 s = sdW S v (cnS S) s) (h72 : ∀ s, s < 6 → gI M2 72 s = sdW S v (cnS S) s) (h98 : ∀ j, j < 5 → gI M2 98 j = gI M2 33 j) (h335 : gI M2 33 5 = gI S 33 5) : INV b M2 := by
  obtain ⟨hS, hH, hV, hSc, hLd, hC, hAc, hSh, hT, hL⟩ := hI
  have A : ∀ q : Nat → Nat → Bool, (∀ r j, q r j = true → pC b r j = true) → (∀ r j, q r j = true → nin [5, 22, 33, 68, 72, 98] r = true) → agr q S M2 := fun q h1 h2 => agr_m (fun r j z => by rw [h1 r j z, h2 r j z]; rfl) hF
  have B : ∀ (q : Nat → Nat → Bool), (∀ a, a ∈ [5, 22, 33, 68, 72, 98] → ∀ j, q a j = false) → ∀ r j, q r j = true → nin [5, 22, 33, 68, 72, 98] r = true := fun q h => nin_c h
  have D : ∀ (q : Nat → Nat → Bool), (∀ j, q 5 j = false) → (∀ j, q 22 j = false) → (∀ j, q 33 j = false) → (∀ j, q 68 j = false) → (∀ j, q 72 j = false) → (∀ j, q 98 j = false) → ∀ a, a ∈ [5, 22, 33, 68, 72, 98] → ∀ j, q a j = false := by
    intro q a1 a2 a3 a4 a5 a6 a ha j
    simp only [List.mem_cons, List.not_mem_nil, or_false] at ha
    rcases ha with e | e | e | e | e | e <;> subst e
    · exact a1 j
    · exact a2 j
    · exact a3 j
    · exact a4 j
    · exact a5 j
    · exact a6 j
  refine ⟨StatW_a (A _ (le_stat b) (B _ (D _ (fun _ => rfl) (fun _ => rfl) (fun _ => rfl) (fun _ => rfl) (fun _ => rfl) (fun _ => rfl)))) hS, ⟨?_, h68⟩, ?_, SchR_a (A _ (le_sch b) (B _ (D _ (fun _ => rfl) (fun _ => rfl) (fun _ => rfl) (fun _ => rfl) (fun _ => rfl) (fun _ => rfl)))) hSc, ?_, ChgR_a (A _ (le_chg b) (B _ (D _ (fun _ => rfl) (fun _ => rfl) (fun _ => rfl) (fun _ => rfl) (fun _ => rfl) (fun _ => rfl)))) hC, ActR_a (A _ (le_act b) (B _ (D _ (fun _ => rfl) (fun _ => rfl) (fun _ => rfl) (fun _ => rfl) (fun _ => rfl) (fun _ => rfl)))) hAc, ShfR_a (A _ (le_shf b) (B _ (D _ (fun _ => rfl) (fun _ => rfl) (fun _ => rfl) (fun _ => rfl) (fun _ => rfl) (fun _ => rfl)))) hSh, TapR_a (A _ (le_tap b) (B _ (D _ (fun _ => rfl) (fun _ => rfl) (fun _ => rfl) (fun _ => rfl) (fun _ => rfl) (fun _ => rfl)))) hT, LawR_a (A _ (le_law b) (B _ (D _ (fun _ => by unfold pLaw; exact Bool.and_false _) (fun _ => by unfold pLaw; exact Bool.and_false _) (fun _ => by unfold pLaw; exact Bool.and_false _) (fun _ => by unfold pLaw; exact Bool.and_false _) (fun _ => by unfold pLaw; exact Bool.and_false _) (fun _ => by unfold pLaw; exact Bool.and_false _)))) hL⟩
  · intro j hj
    have hj7 : j = 0 ∨ j = 1 ∨ j = 2 ∨ j = 3 ∨ j = 4 ∨ j = 5 ∨ j = 6 := by omega
    rcases hj7 with e | e | e | e | e | e | e <;> subst e
    · rw [h5.1.1]; exact hg.1
    · rw [h5.1.2.1]; exact hg.2.1
    · rw [h5.1.2.2.1]; exact hg.2.2.1
    · rw [h5.1.2.2.2.1]; exact hg.2.2.2
    · rw [h5.2.1]; exact hH.1 4 (by decide)
    · rw [h5.2.2]; exact hH.1 5 (by decide)
    · rw [h5.1.2.2.2.2]; exact hH.1 6 (by decide)
  · have e18 : gI M2 18 0 = gI S 18 0 := agr_nI hF rfl
    have e67 : gI M2 67 2 = gI S 67 2 := agr_nI hF rfl
    refine ⟨by rw [e18]; exact hV.1, by rw [e18, e67]; exact hV.2.1, fun j hj => ?_⟩
    have e19 : gI M2 19 j = gI S 19 j := agr_nI hF rfl
    have e20 : gI M2 20 j = gI S 20 j := agr_nI hF rfl
    have e21 : gI M2 21 j = gI S 21 j := agr_nI hF rfl
    have e69 : gI M2 69 j = gI S 69 j := agr_nI hF rfl
    have e70 : gI M2 70 j = gI S 70 j := agr_nI hF rfl
    have e71 : gI M2 71 j = gI S 71 j := agr_nI hF rfl
    have q := hV.2.2 j hj
    rw [e19, e20, e21, e69, e70, e71, h22 j hj, h72 j hj, e18]
    refine ⟨⟨q.1.1, q.1.2.1, q.1.2.2.1, fun z => ?_⟩, q.2.1, q.2.2.1, q.2.2.2.1, rfl⟩
    unfold sdW
    rw [decide_eq_false (show ¬ j < cnS S from by unfold cnS; omega), q.1.2.2.2 z]
    rfl
  · have e34 : ∀ j, gI M2 34 j = gI S 34 j := fun j => agr_nI hF rfl
    have e54 : gI M2 67 54 = gI S 67 54 := agr_nI hF rfl
    have e99 : ∀ j, gI M2 99 j = gI S 99 j := fun j => agr_nI hF rfl
    have e100 : ∀ j, gI M2 100 j = gI S 100 j := fun j => agr_nI hF rfl
    refine ⟨h98, by rw [h335]; exact hLd.2.1, by rw [e54, h335]; exact hLd.2.2.1, fun j hj => ?_, fun j hj => ?_⟩
    · rw [e34, e99]; exact hLd.2.2.2.1 j hj
    · rw [e34, e100]; exact hLd.2.2.2.2 j hj
theorem P_hour (hI : INV b S) {x : Int32} : PAIR b S 145 273 [.ref 4, .int x, U] [.ref 67, .int x, U] := by
  obtain ⟨hS, hH, hV, hSc, hLd, hC, hAc, hSh, hT, hL⟩ := id hI
  have hc6 : cnS S ≤ 6 := hV.1
  intro d hd f k
  obtain ⟨d, rfl⟩ := ex1 (e := 199) hd
  refine v145_0 (c59 (by omega) ⟨rfl, brK_b (fun h => ?_) (fun h => ?_)⟩)
  · exact k _ S rfl (fun f2 k2 => v273_0 (c214 (by omega) ⟨rfl, brK_b (fun _ => k2 S hI rfl) (fun q => ff h q)⟩))
  · have hx := rg_tt h
    have hv : ix (sayV b S (s0 S) (tmV S) x) < 16 := sayV_lt
    have hsb := SB_go (S := S) hH.1 (SB_0 hH.1) (r := x) hv hx
    have e3 : muV S (s0 S) (sayV b S (s0 S) (tmV S) x) = mun b S (fun _ => x) 0 := rfl
    have e4 : sdn b S (fun _ => x) 0 = sayV b S (s0 S) (tmV S) x := rfl
    have m16 : mun b S (fun _ => x) 0 < 16 ↔ lmS S (s0 S) (sayV b S (s0 S) (tmV S) x) = false := mun_lump
    have mmd : md (mun b S (fun _ => x) 0) 16 = sayV b S (s0 S) (tmV S) x := mun_md
    refine c71 (S := S) (s := s0 S) (r := x) (by omega) (by decide) rfl hL (agr_r S) ⟨⟨rfl, rfl, rfl, rfl, rfl⟩, rfl, rfl⟩ (fun N1 hN1 hs1 => ⟨rfl, ?_⟩)
    have evv : muV S (s0 S) (sayV b S (s0 S) (tmV S) x) = bif lmS S (s0 S) (sayV b S (s0 S) (tmV S) x) then sayV b S (s0 S) (tmV S) x + 16 else sayV b S (s0 S) (tmV S) x := rfl
    rw [e3] at evv ⊢
    generalize hgv : sayV b S (s0 S) (tmV S) x = v at *
    generalize mun b S (fun _ => x) 0 = w at *
    have go : WP (d + 1) 107 145 37 [.ref 4, .int x, .int w] [.int (bI (lmS S (s0 S) v)), .ref 33] 107 (FR b, N1) (rI f) := by
      refine v145_37 ?_
      have e55 : gI N1 5 5 = gI S 5 5 := hs1.2.2
      rw [e55]
      show WP d 107 146 0 [.ref 18, .int (md w 16), .int (gI S 5 5), U, U] [] 107 (FR b, N1) _
      rw [mmd]
      refine c146 (S := S) (v := v) (by omega) hI hN1 (by rw [pk_and _ 4 rfl]; apply ix_inj; rw [ix_n (by omega)]; show ix v % 2 ^ 4 = _; omega) (fun N2 hN2 h22 => ⟨rfl, c147 (by omega) (fun N3 hN3 g0 g1' g2 g3 g4 => ⟨rfl, ?_⟩)⟩)
      have hF : agr (fr [17, 5, 22, 33]) S N3 := agr_t (fr_s (by decide) hN1) (agr_t (fr_s (by decide) hN2) (fr_s (by decide) hN3))
      have e33 : ∀ j, gI N2 33 j = gI S 33 j := fun j => (agr_nI hN2 rfl).trans (agr_nI hN1 rfl)
      dsimp only at g0 g1' g2 g3 g4
      simp only [e33] at g0 g1' g2 g3 g4
      refine k w N3 (funext fun j => (hF 3 j rfl).1) (fun f2 k2 => v273_0 (c214 (by omega) ⟨rfl, brK_b (fun q => ff q h) (fun _ => ?_)⟩))
      have hR : agr (pRf b) S N3 := fr_pR (by decide) hF
      refine c222r (S := S) (by omega) hI hR (fun N4 hN4 hs4 _ => ⟨rfl, ?_⟩)
      have hR4 : agr (pRf b) S N4 := agr_t hR (pR_le (frh_pC hN4))
      refine c225r (S := S) (r := x) (by omega) hI hR4 hs4 (fun N5 hN5 hs5 h33 h34 => ⟨rfl, ?_⟩)
      rw [hgv] at hs5 h33 h34
      have hR5 : agr (pRf b) S N5 := agr_t hR4 (pR_le (frh_pC hN5))
      dsimp only
      rw [hs5.1, hs5.2.1, hs5.2.2.1, hs5.2.2.2]
      have hF5 : agr frh N3 N5 := agr_t hN4 hN5
      have hs3 : HW S N3 5 (goV S (s0 S) x v) := HW_a (fun j => (agr_nI hN3 rfl).trans (agr_nI hN2 rfl)) hs1
      generalize goV S (s0 S) x v = g1 at *
      have hP : ∀ r j, r ≠ 68 → gI (sI (sI (sI (sI N5 68 0 g1.1) 68 1 g1.2.1) 68 2 g1.2.2.1) 68 3 g1.2.2.2) r j = gI N5 r j := fun r j hr => by
        rw [gI_or hr, gI_or hr, gI_or hr, gI_or hr]
      have hP8 : ∀ j, j < 7 → gI (sI (sI (sI (sI N5 68 0 g1.1) 68 1 g1.2.1) 68 2 g1.2.2.1) 68 3 g1.2.2.2) 68 j = gI N3 5 j := by
        intro j hj
        have hj7 : j = 0 ∨ j = 1 ∨ j = 2 ∨ j = 3 ∨ j = 4 ∨ j = 5 ∨ j = 6 := by omega
        rcases hj7 with e | e | e | e | e | e | e <;> subst e
        · rw [hs3.1.1]; simp [gI_if]
        · rw [hs3.1.2.1]; simp [gI_if]
        · rw [hs3.1.2.2.1]; simp [gI_if]
        · rw [hs3.1.2.2.2.1]; simp [gI_if]
        · rw [hs3.2.1]; exact e68r hI hR5 (by decide)
        · rw [hs3.2.2]; exact e68r hI hR5 (by decide)
        · rw [hs3.1.2.2.2.2]; exact e68r hI hR5 (by decide)
      have hPa : agr (fr [68]) N5 (sI (sI (sI (sI N5 68 0 g1.1) 68 1 g1.2.1) 68 2 g1.2.2.1) 68 3 g1.2.2.2) := agr_sI rfl (agr_sI rfl (agr_sI rfl (agr_sI rfl (agr_r N5))))
      generalize hPd : sI (sI (sI (sI N5 68 0 g1.1) 68 1 g1.2.1) 68 2 g1.2.2.1) 68 3 g1.2.2.2 = P0 at hP hP8 hPa ⊢
      have l : ∀ m i (Q : M2), i + m = cnS S → agr (fr [72, 98]) P0 Q → (∀ s, s < 6 → gI Q 72 s = sdW S v i s) → gI Q 98 3 = gI S 98 3 + pnW S v i → (∀ j, j ≠ 3 → gI Q 98 j = gI S 98 j) → WP (d + 1) 107 273 60 [.ref 67, .int x, .int (nI i)] [] 107 (FR b, Q) (rI f2) := by
        intro m
        induction m with
        | zero =>
          intro i Q hi hQ h72 h983 h98
          have : i = cnS S := by omega
          subst this
          have e2 : gI Q 67 2 = nI (cnS S) := by
            rw [agr_nI hQ rfl, hP 67 2 (by decide), agr_nI hR5 rfl, hV.2.1]
            exact (n_ix _).symm
          have e34 : gI Q 67 34 = bI (lmS S (s0 S) v) := by rw [agr_nI hQ rfl, hP 67 34 (by decide), h34]
          have e33 : gI Q 67 33 = v := by rw [agr_nI hQ rfl, hP 67 33 (by decide), h33]
          have fin : ∀ M2, agr (fr [98]) Q M2 → gI M2 98 0 = gI S 98 0 + 1 → gI M2 98 1 = gI S 98 1 + bI (lmS S (s0 S) v) → gI M2 98 2 = gI S 98 2 + bI (!decide (x = 0)) → gI M2 98 3 = gI S 98 3 + pnW S v (cnS S) → gI M2 98 4 = gI S 98 4 → f2 w (FR b, M2) := by
            intro M2 hM2 a0 a1 a2 a3 a4
            have eN3 : ∀ r j, r < 67 → gI M2 r j = gI N3 r j ∧ gL M2 r j = gL N3 r j := by
              intro r j hr
              have n1 : nin [98] r = true := nin_c (l := [98]) (q := fun r _ => Nat.blt r 67) (fun a ha j => by rw [List.mem_singleton.mp ha]; rfl) r 0 (Nat.ble_eq_true_of_le hr)
              have n2 : nin [72, 98] r = true := nin_c (l := [72, 98]) (q := fun r _ => Nat.blt r 67) (fun a ha j => by
                rcases List.mem_cons.mp ha with e | e
                · rw [e]; rfl
                · rw [List.mem_singleton.mp e]; rfl) r 0 (Nat.ble_eq_true_of_le hr)
              have n3 : nin [68] r = true := nin_c (l := [68]) (q := fun r _ => Nat.blt r 67) (fun a ha j => by rw [List.mem_singleton.mp ha]; rfl) r 0 (Nat.ble_eq_true_of_le hr)
              have n4 : frh r j = true := by
                unfold frh
                rw [nin_c (l := [84, 85]) (q := fun r _ => Nat.blt r 67) (fun a ha j => by
                  rcases List.mem_cons.mp ha with e | e
                  · rw [e]; rfl
                  · rw [List.mem_singleton.mp e]; rfl) r 0 (Nat.ble_eq_true_of_le hr)]
                cases hb : Nat.beq r 67 with
                | false => rfl
                | true => have := Nat.eq_of_beq_eq_true hb; omega
              exact ⟨(hM2 r j n1).1.trans ((hQ r j n2).1.trans ((hPa r j n3).1.trans (hF5 r j n4).1)), (hM2 r j n1).2.trans ((hQ r j n2).2.trans ((hPa r j n3).2.trans (hF5 r j n4).2))⟩
            refine k2 M2 (INV_hour (v := v) (g1 := g1) hI hsb ?_ (HW_a (fun j => (eN3 5 j (by decide)).1) hs3) (fun j hj => ?_) (fun s hs => ?_) (fun s hs => ?_) (fun j hj => ?_) ?_) (funext fun j => ((eN3 3 j (by decide)).1).trans (hF 3 j rfl).1)
            · intro r j hq
              rw [Bool.and_eq_true] at hq
              by_cases hr : r < 67
              · have n1 : nin [17, 5, 22, 33] r = true := nin_c (l := [17, 5, 22, 33]) (q := fun r j => pC b r j && nin [5, 22, 33, 68, 72, 98] r) (fun a ha j => by
                  simp only [List.mem_cons, List.not_mem_nil, or_false] at ha
                  rcases ha with e | e | e | e <;> subst e
                  · rfl
                  · exact Bool.and_false _
                  · exact Bool.and_false _
                  · exact Bool.and_false _) r j (by rw [hq.1, hq.2]; rfl)
                exact ⟨(eN3 r j hr).1.trans (hF r j n1).1, (eN3 r j hr).2.trans (hF r j n1).2⟩
              · have hr2 : pRf b r j = true := by
                  unfold pRf
                  rw [hq.1, Nat.ble_eq_true_of_le (by omega : 67 ≤ r)]; rfl
                have sub : ∀ l : List Nat, (∀ a, a ∈ l → nin [5, 22, 33, 68, 72, 98] a = false) → nin l r = true := fun l hl => nin_c (q := fun r _ => nin [5, 22, 33, 68, 72, 98] r) (fun a ha _ => hl a ha) r 0 hq.2
                have n1 := sub [98] (by decide)
                have n2 := sub [72, 98] (by decide)
                have n3 := sub [68] (by decide)
                exact ⟨(hM2 r j n1).1.trans ((hQ r j n2).1.trans ((hPa r j n3).1.trans (hR5 r j hr2).1)), (hM2 r j n1).2.trans ((hQ r j n2).2.trans ((hPa r j n3).2.trans (hR5 r j hr2).2))⟩
            · rw [agr_nI hM2 rfl, agr_nI hQ rfl, hP8 j hj]
              exact ((eN3 5 j (by decide)).1).symm
            · rw [(eN3 22 s (by decide)).1, agr_nI hN3 rfl]
              exact h22 s hs
            · rw [agr_nI hM2 rfl]
              exact h72 s hs
            · have h0 := hLd.1
              rcases lt5 hj with e | e | e | e | e <;> subst e
              · rw [a0, (eN3 33 0 (by decide)).1, g0, h0 0 (by decide)]
              · rw [a1, (eN3 33 1 (by decide)).1, g1', h0 1 (by decide)]
              · rw [a2, (eN3 33 2 (by decide)).1, g2, h0 2 (by decide)]
              · rw [a3, (eN3 33 3 (by decide)).1, g3, h0 3 (by decide)]
              · rw [a4, (eN3 33 4 (by decide)).1, g4 4 (by decide), h0 4 (by decide)]
            · rw [(eN3 33 5 (by decide)).1, g4 5 (by decide)]
          have h0 := h98 0 (by decide)
          have h1 := h98 1 (by decide)
          have h2 := h98 2 (by decide)
          have h4 := h98 4 (by decide)
          refine v273_60 (brK_t (by rw [e2, i_le]; exact Int.le_refl _) ?_)
          rw [e34]
          refine brK_b (fun z => v273_160 ?_) (fun z => v273_160 ?_)
          · rw [z] at fin evv
            have e34' : gI (sI Q 98 0 (gI Q 98 0 + 1)) 67 34 = 0 := by rw [gI_or (by decide), e34, z]; rfl
            have e33' : gI (sI Q 98 0 (gI Q 98 0 + 1)) 67 33 = v := by rw [gI_or (by decide), e33]
            rw [e34', e33']
            have evv : w = v := evv
            subst evv
            refine brK_n (fun z2 => brK_t rfl ?_) (fun z2 => brK_t rfl ?_)
            · rw [z2] at fin
              refine fin _ (agr_sI rfl (agr_r Q)) ?_ ?_ ?_ ?_ ?_
              · rw [gI_s, h0]
              · rw [gI_oj (by decide), h1]; exact (Int32.add_zero _).symm
              · rw [gI_oj (by decide), h2]; exact (Int32.add_zero _).symm
              · rw [gI_oj (by decide), h983]
              · rw [gI_oj (by decide), h4]
            · rw [z2] at fin
              refine fin _ (agr_sI rfl (agr_sI rfl (agr_r Q))) ?_ ?_ ?_ ?_ ?_
              · rw [gI_oj (by decide), gI_s, h0]
              · rw [gI_oj (by decide), gI_oj (by decide), h1]; exact (Int32.add_zero _).symm
              · rw [gI_s, gI_oj (by decide), h2]; rfl
              · rw [gI_oj (by decide), gI_oj (by decide), h983]
              · rw [gI_oj (by decide), gI_oj (by decide), h4]
          · rw [z] at fin evv
            have e34' : gI (sI (sI Q 98 0 (gI Q 98 0 + 1)) 98 1 (gI (sI Q 98 0 (gI Q 98 0 + 1)) 98 1 + 1)) 67 34 = 1 := by rw [gI_or (by decide), gI_or (by decide), e34, z]; rfl
            have e33' : gI (sI (sI Q 98 0 (gI Q 98 0 + 1)) 98 1 (gI (sI Q 98 0 (gI Q 98 0 + 1)) 98 1 + 1)) 67 33 = v := by rw [gI_or (by decide), gI_or (by decide), e33]
            have e11 : gI (sI Q 98 0 (gI Q 98 0 + 1)) 98 1 = gI Q 98 1 := gI_oj (by decide)
            rw [e11] at e34' e33' 
            rw [e34', e33']
            have evv : w = v + 16 := evv
            subst evv
            refine brK_n (fun z2 => brK_f (by decide) ?_) (fun z2 => brK_f (by decide) ?_)
            · rw [z2] at fin
              refine fin _ (agr_sI rfl (agr_sI rfl (agr_r Q))) ?_ ?_ ?_ ?_ ?_
              · rw [gI_oj (by decide), gI_s, h0]
              · rw [gI_s, h1]; rfl
              · rw [gI_oj (by decide), gI_oj (by decide), h2]; exact (Int32.add_zero _).symm
              · rw [gI_oj (by decide), gI_oj (by decide), h983]
              · rw [gI_oj (by decide), gI_oj (by decide), h4]
            · rw [z2] at fin
              refine fin _ (agr_sI rfl (agr_sI rfl (agr_sI rfl (agr_r Q)))) ?_ ?_ ?_ ?_ ?_
              · rw [gI_oj (by decide), gI_oj (by decide), gI_s, h0]
              · rw [gI_oj (by decide), gI_s, h1]; rfl
              · rw [gI_s, gI_oj (by decide), gI_oj (by decide), h2]; rfl
              · rw [gI_oj (by decide), gI_oj (by decide), gI_oj (by decide), h983]
              · rw [gI_oj (by decide), gI_oj (by decide), gI_oj (by decide), h4]
        | succ m ih =>
          intro i Q hi hQ h72 h983 h98
          have e1 : ix (nI i) = i := ix_n (by omega)
          have e2 : gI Q 67 2 = nI (cnS S) := by
            rw [agr_nI hQ rfl, hP 67 2 (by decide), agr_nI hR5 rfl, hV.2.1]
            exact (n_ix _).symm
          have e33 : gI Q 67 33 = v := by rw [agr_nI hQ rfl, hP 67 33 (by decide), h33]
          have q := hV.2.2 i (by omega)
          have e69 : gI Q 69 i = gI S 19 i := by rw [agr_nI hQ rfl, hP 69 i (by decide), agr_nI hR5 rfl, q.2.1]
          have e70 : gI Q 70 i = gI S 20 i := by rw [agr_nI hQ rfl, hP 70 i (by decide), agr_nI hR5 rfl, q.2.2.1]
          have e71 : gI Q 71 i = gI S 21 i := by rw [agr_nI hQ rfl, hP 71 i (by decide), agr_nI hR5 rfl, q.2.2.2.1]
          have e685 : gI Q 68 5 = gI S 5 5 := by rw [agr_nI hQ rfl, hP8 5 (by decide), hs3.2.2]
          have ep : pnW S v (i + 1) = pnW S v i + (bif slF S v i then gI S 20 i else 0) := rfl
          have skip : slF S v i = false → WP (d + 1) 107 273 60 [.ref 67, .int x, .int (nI i + 1)] [] 107 (FR b, Q) (rI f2) := by
            intro z
            rw [nI_1]
            refine ih (i + 1) Q (by omega) hQ (fun s hs => ?_) ?_ h98
            · rw [h72 s hs]
              by_cases e : s = i
              · subst e; exact (sdW_o (Or.inr z)).symm
              · exact (sdW_o (Or.inl e)).symm
            · rw [h983, ep, z]
              show _ = gI S 98 3 + (pnW S v i + 0)
              rw [Int32.add_zero]
          refine v273_60 (brK_f (fun z => ?_) (iK_i (by omega) ?_))
          · rw [e2] at z
            have := (cnt_lt (n := i) (m := cnS S) rfl (by omega) (by omega)).mp z
            omega
          · rw [e1, e69, e33]
            refine brK_d (fun z => skip ?_) (fun z => iK_i (by omega) ?_)
            · have z : decide (bitV (gI S 19 i) v = 0) = true := z
              unfold slF; rw [z]; rfl
            · have z : decide (bitV (gI S 19 i) v = 0) = false := z
              rw [e71, e685]
              refine ⟨fun z2 => iK_i (by omega) (iK_i (by omega) (iK_i (by omega) ?_)), fun z2 => skip ?_⟩
              · have hsl : slF S v i = true := by
                  unfold slF
                  rw [z, decide_eq_false (show ¬ gI S 5 5 < gI S 21 i from fun e => by rw [i_lt] at e; rw [i_le] at z2; omega)]; rfl
                have e983 : gI (sI Q 72 i (gI Q 72 i + 1)) 98 3 = gI Q 98 3 := gI_or (by decide)
                have e70' : gI (sI Q 72 i (gI Q 72 i + 1)) 70 i = gI Q 70 i := gI_or (by decide)
                rw [nI_1, h983, e70, h72 i (by omega)]
                refine ih (i + 1) _ (by omega) (agr_sI rfl (agr_sI rfl hQ)) (fun s hs => ?_) ?_ (fun j hj => ?_)
                · rw [gI_or (by decide)]
                  by_cases e : s = i
                  · subst e; rw [gI_s]; exact (sdW_s hsl).symm
                  · rw [gI_oj e, h72 s hs]; exact (sdW_o (Or.inl e)).symm
                · rw [gI_s, ep, hsl, Int32.add_assoc]; rfl
                · rw [gI_oj hj, gI_or (by decide)]; exact h98 j hj
              · unfold slF
                rw [decide_eq_true (i_nle z2)]; exact Bool.and_false _
      refine l (cnS S) 0 P0 (by omega) (agr_r P0) (fun s hs => ?_) ?_ (fun j hj => ?_)
      · rw [hP 72 s (by decide), agr_nI hR5 rfl, (hV.2.2 s hs).2.2.2.2]
        unfold sdW
        rw [decide_eq_false (show ¬ s < 0 by omega)]
        exact (Int32.add_zero _).symm
      · rw [hP 98 3 (by decide), agr_nI hR5 rfl]
        exact (Int32.add_zero _).symm
      · rw [hP 98 j (by decide), agr_nI hR5 rfl]
    refine ⟨fun z => ?_, fun z => ?_⟩
    · rw [m16.mp z] at go; exact go
    · have : lmS S (s0 S) v = true := by
        cases hz : lmS S (s0 S) v with
        | true => rfl
        | false => exact absurd (m16.mpr hz) z
      rw [this] at go; exact go
end HOUR2
