/-! hours -/
def hoursW (b : Bool) (S : M2) (rem : Nat → Int32) (n : Nat) (w : Int32) : Int32 :=
  bif decide (w = 0) then (bif decide (n = 0) then -2 else (hst b S rem n).2.2.1) else bif decide (w = 5) then nI (cn (lmn b S rem) n) else bif decide (w = 6) then fstB (lmn b S rem) n 0
  else bif decide (w = 1) then (hst b S rem n).1 else bif decide (w = 2) then (hst b S rem n).2.1 else bif decide (w = 3) then (hst b S rem n).2.2.1 else (hst b S rem n).2.2.2
def hoursV (b : Bool) (S : M2) (x y w : Int32) : Int32 := bif rg x 6 && (rg y 201 && rg w 7) then (bif isRowV S (ix x) 0 then hoursW b S (rmS S (ix x)) (ix y) w else refV S (ix x)) else -1
section HOURS
variable {d : Nat} {b : Bool} {S : M2}
theorem brK_rh' {x : Int32} {A B : Prop} (ha : rg x 7 = false → A) (hb : rg x 7 = true → B) : brK (x < 0) A (brK (x ≤ 6) B A) := brK_ri (n := 6) rfl (by decide) ha hb
theorem C_hours (hI : INV b S) {x y w : Int32} {f : Int32 → Mm → Prop} (hd : 199 ≤ d) (k : ∀ M', agr (pC b) S M' → f (hoursV b S x y w) (FR b, M')) : WP (d + 1) 107 64 0 [.ref 4, .int x, .int y, .int w, U] [] 107 (FR b, S) (rI f) := by
  unfold hoursV at k
  refine v64_0 (c18 (by omega) (fun h => ⟨rfl, ?_⟩) (fun h => ⟨rfl, c65 (by omega) ⟨rfl, brK_b (fun h2 => ?_) (fun h2 => brK_rh' (fun h3 => ?_) (fun h3 => ?_))⟩⟩))
  · rw [h] at k; exact k S (agr_r S)
  · rw [h, h2] at k; exact k S (agr_r S)
  · rw [h, h2, h3] at k; exact k S (agr_r S)
  · rw [h, h2, h3] at k
    have hi := rg_tt h
    have hk := sh_kd _ hi
    have hy := rg_tt h2
    have hw := rg_tt h3
    refine oK_i hk.2.1 hk.1 (c19 (by omega) hi ⟨rfl, brK_b (fun h4 => oK_i hk.2.1 hk.1 (c66 (by omega) hi ⟨rfl, ?_⟩)) (fun h4 => ?_)⟩)
    · rw [h4] at k; exact k S (agr_r S)
    · rw [h4] at k
      refine c67 (S := S) (by omega) hi hI h4 (by omega) (agr_r S) (fun N' hN' hT => ⟨rfl, ?_⟩)
      have k2 := k N' (frt_pC hN')
      have k2 : f (hoursW b S (rmS S (ix x)) (ix y) w) (FR b, N') := k2
      unfold hoursW at k2
      dsimp only
      refine ⟨fun z => ?_, fun z => ⟨fun z2 => ?_, fun z2 => ⟨fun z3 => ?_, fun z3 => ?_⟩⟩⟩
      · rw [decide_eq_true z] at k2
        have e : (decide (ix y = 0)) = decide (y = 0) := by
          by_cases q : y = 0
          · rw [decide_eq_true q, q]; rfl
          · rw [decide_eq_false q]; exact decide_eq_false (fun q2 => q (ix_inj q2))
        rw [e] at k2
        refine brK_d (fun q => ?_) (fun q => ?_)
        · rw [q] at k2; exact k2
        · rw [q] at k2
          rw [hT.1.1.2.2.1]
          exact k2
      · rw [decide_eq_false z, decide_eq_true z2] at k2
        exact c75 (by omega) (by omega) hT ⟨rfl, k2⟩
      · rw [decide_eq_false z, decide_eq_false z2, decide_eq_true z3] at k2
        exact c76 (by omega) (by omega) hT ⟨rfl, k2⟩
      · rw [decide_eq_false z, decide_eq_false z2, decide_eq_false z3] at k2
        have a0 : ix w ≠ 0 := ix_lit z
        have a5 : ix w ≠ 5 := ix_lit z2
        have a6 : ix w ≠ 6 := ix_lit z3
        have e : ix (w - 1) = ix w - 1 := ix_pred (by omega)
        refine c29 (by omega) (by decide) rfl (by rw [e]; omega) ⟨rfl, ?_⟩
        rw [e]
        have : w = 1 ∨ w = 2 ∨ w = 3 ∨ w = 4 := by
          have : ix w = 1 ∨ ix w = 2 ∨ ix w = 3 ∨ ix w = 4 := by omega
          rcases this with q | q | q | q
          · exact Or.inl (ix_inj q)
          · exact Or.inr (Or.inl (ix_inj q))
          · exact Or.inr (Or.inr (Or.inl (ix_inj q)))
          · exact Or.inr (Or.inr (Or.inr (ix_inj q)))
        rcases this with q | q | q | q <;> subst q
        · show f (gI N' 6 0) _
          rw [hT.1.1.1]; exact k2
        · show f (gI N' 6 1) _
          rw [hT.1.1.2.1]; exact k2
        · show f (gI N' 6 2) _
          rw [hT.1.1.2.2.1]; exact k2
        · show f (gI N' 6 3) _
          rw [hT.1.1.2.2.2.1]; exact k2
theorem c220 {f : Int32 → Mm → Prop} {v : Int32} {N : M2} (hd : 2 ≤ d) (k : f (bI (rg v 201)) (FR b, N)) : WP d 107 220 0 [.int v] [] 107 (FR b, N) (rI f) := by
  obtain ⟨d, rfl⟩ := ex1 (e := 1) hd
  exact v220_0 (c180n 200 (by omega) rfl (by decide) ⟨rfl, iK_b k⟩)
/-- hours gone through by the reference: he, and what was said last -/
def sdL (b : Bool) (S : M2) (rem : Nat → Int32) : Nat → Int32
  | 0 => -2
  | n + 1 => sdn b S rem n
theorem l219 (hd : 5 ≤ d) (hI : INV b S) {x y w u : Int32} (hx : ix x < 6) (hy : ix y ≤ 200) (hw : ix w < 7) (hr : isRowV S (ix x) 0 = true) {f : Int32 → Mm → Prop} : ∀ (m k : Nat) (N : M2) (v : Int32) (u4 : Value), k + m = ix y → agr (pC b) S N → MS N (hst b S (rmS S (ix x)) k) → gI N 67 33 = sdL b S (rmS S (ix x)) k → Fst (lmn b S (rmS S (ix x))) k v → (∀ M', agr (pC b) S M' → f (hoursW b S (rmS S (ix x)) (ix y) w) (FR b, M')) → WP (d + 1) 107 219 56 [.ref 67, .int x, .int (nI (ix y)), .int w, u4, .int (nI (cn (lmn b S (rmS S (ix x))) k)), .int v, .int (nI k)] [] 107 (FR b, N) (rI f) := by
  intro m
  induction m with
  | zero =>
    intro k N v u4 hm hA hs h33 hv q
    have : k = ix y := by omega
    subst this
    refine v219_56 (brK_t ((cnt_lt rfl (by omega) (Nat.le_refl _)).mpr rfl) ?_)
    have k2 := q N hA
    unfold hoursW at k2
    refine ⟨fun z => ?_, fun z => ⟨fun z1 => ?_, fun z1 => ⟨fun z2 => ?_, fun z2 => ⟨fun z3 => ?_, fun z3 => ⟨fun z4 => ?_, fun z4 => ⟨fun z5 => ?_, fun z5 => ?_⟩⟩⟩⟩⟩⟩
    · subst z
      rw [h33]
      cases hz : ix y with
      | zero => rw [hz] at k2; exact k2
      | succ n => rw [hz] at k2; exact k2
    · subst z1; rw [hs.1]; exact k2
    · subst z2; rw [hs.2.1]; exact k2
    · subst z3; rw [hs.2.2.1]; exact k2
    · subst z4; rw [hs.2.2.2]; exact k2
    · subst z5; exact k2
    · have a0 : ix w ≠ 0 := ix_lit z
      have a1 : ix w ≠ 1 := ix_lit z1
      have a2 : ix w ≠ 2 := ix_lit z2
      have a3 : ix w ≠ 3 := ix_lit z3
      have a4 : ix w ≠ 4 := ix_lit z4
      have a5 : ix w ≠ 5 := ix_lit z5
      have e : w = 6 := ix_inj (show ix w = 6 by omega)
      subst e
      rw [Fst_u hv (by have := Fst_fstB (lmn b S (rmS S (ix x))) (ix y) 0 (fun l h => absurd h (by omega)); rw [Nat.zero_add] at this; exact this)]
      exact k2
  | succ m ih =>
    intro k N v u4 hm hA hs h33 hv q
    refine v219_56 (brK_f (fun z => by have := (cnt_lt (n := k) (m := ix y) rfl (by omega) (by omega)).mp z; omega) (c223 (S := S) (by omega) hI hA hx (by omega) hr ⟨rfl, c225 (S := S) (by omega) hI hA hs (fun N2 hN2 hs2 g33 g34 => ⟨rfl, ?_⟩)⟩))
    have hA2 : agr (pC b) S N2 := agr_t hA (frh_pC hN2)
    dsimp only
    rw [g34]
    have nx := fun v' u' hv' => ih (k + 1) N2 v' u' (by omega) hA2 hs2 g33 hv' q
    have ec : cn (lmn b S (rmS S (ix x))) (k + 1) = cn (lmn b S (rmS S (ix x))) k + (bif lmn b S (rmS S (ix x)) k then 1 else 0) := rfl
    have el : lmS S (hst b S (rmS S (ix x)) k) (sayV b S (hst b S (rmS S (ix x)) k) (tmV S) (rmS S (ix x) k)) = lmn b S (rmS S (ix x)) k := rfl
    rw [el, nI_1, nI_1]
    have fs := Fst_s hv
    have hle := cn_le (lmn b S (rmS S (ix x))) k
    cases hl : lmn b S (rmS S (ix x)) k with
    | false =>
      rw [hl] at ec
      rw [ec] at nx
      exact brK_t rfl (brK_t rfl (nx _ _ (fs.1 hl)))
    | true =>
      rw [hl] at ec
      rw [ec] at nx
      refine brK_f (by decide) ⟨fun z => brK_f (by decide) (nx _ _ (fs.2.2 ?_ hl)), fun z => brK_f (by decide) (nx _ _ (fs.2.1 ?_))⟩
      · have := (ix_eq (n := 0) (by decide)).mp z
        rw [ix_n (by omega)] at this
        exact this
      · intro q; apply z; rw [q]; rfl
theorem M_hours (hI : INV b S) {x y w : Int32} {f : Int32 → Mm → Prop} {N : M2} (hd : 199 ≤ d) (hA : agr (pC b) S N) (k : ∀ M', agr (pC b) S M' → f (hoursV b S x y w) (FR b, M')) : WP (d + 1) 107 219 0 [.ref 67, .int x, .int y, .int w, U, U, U, U] [] 107 (FR b, N) (rI f) := by
  obtain ⟨d, rfl⟩ := ex1 (e := 198) hd
  unfold hoursV at k
  refine v219_0 (c183 (by omega) ⟨rfl, brK_b (fun h => ?_) (fun h => c220 (by omega) ⟨rfl, brK_b (fun h2 => ?_) (fun h2 => c180n 6 (by omega) rfl (by decide) ⟨rfl, brK_b (fun h3 => ?_) (fun h3 => ?_)⟩)⟩)⟩)
  · rw [h] at k; exact k N hA
  · rw [h, h2] at k; exact k N hA
  · have h3 : rg w 7 = false := h3
    rw [h, h2, h3] at k; exact k N hA
  · have h3 : rg w 7 = true := h3
    rw [h, h2, h3] at k
    have hi := rg_tt h
    have hy := rg_tt h2
    have hw := rg_tt h3
    refine c221 (S := S) (by omega) hI hA hi (by decide) ⟨rfl, ?_⟩
    cases h4 : isRowV S (ix x) 0 with
    | false =>
      rw [h4] at k
      exact brK_f (rfV_neg S _) (k N hA)
    | true =>
      rw [h4] at k
      refine brK_t (show (0 : Int32) ≤ 0 by decide) (c222 (S := S) (by omega) hI hA (fun N1 hN1 hs1 g33 => ⟨rfl, ?_⟩))
      have := l219 (d := d + 1) (b := b) (S := S) (x := x) (y := y) (w := w) (u := 0) (by omega) hI hi (by omega) hw h4 (f := f) (ix y) 0 N1 (-2) (.int 0) (by omega) (agr_t hA (frh_pC hN1)) hs1 g33 (Fst_0 _) k
      rw [n_ix] at this
      exact this
theorem P_hours (hI : INV b S) {x y w : Int32} : PAIR b S 64 219 [.ref 4, .int x, .int y, .int w, U] [.ref 67, .int x, .int y, .int w, U, U, U, U] :=
  PAIR_ro hI (hoursV b S x y w) (fun _ hd _ k => C_hours hI hd k) (fun _ hA _ hd _ k => M_hours hI hd hA k)
end HOURS
