/-! thing, often -/
section OFTEN
variable {d : Nat} {b : Bool} {S : M2}
theorem P_thing (hI : INV b S) {x : Int32} : PAIR b S 58 213 [.ref 4, .int x] [.ref 67, .int x] := by
  have hL : LawR b S := hI.2.2.2.2.2.2.2.2.2
  refine PAIR_ro hI (bif rg x 10 then sayV b S (s0 S) (tmV S) x else -1) (fun d hd f k => ?_) (fun N hA d hd f k => ?_)
  · refine v58_0 (c59 (by omega) ⟨rfl, brK_b (fun h => ?_) (fun h => ?_)⟩)
    · rw [h] at k; exact k S (agr_r S)
    · rw [h] at k
      exact c60 (S := S) (s := s0 S) (t := tmV S) (by omega) (by decide) rfl hL (agr_r S) ⟨rfl, rfl, rfl, rfl, rfl⟩ (fun N' hN' => ⟨rfl, k N' (fr17_pC hN')⟩)
  · refine v213_0 (c214 (by omega) ⟨rfl, brK_b (fun h => ?_) (fun h => ?_)⟩)
    · rw [h] at k; exact k N hA
    · rw [h] at k
      dsimp only
      rw [e68 hI hA (by decide), e68 hI hA (by decide), e68 hI hA (by decide), e68 hI hA (by decide)]
      refine c215 (S := S) (by omega) hL hA (fun N' hN' => ⟨rfl, ?_⟩)
      have f1 : agr frh N N' := agr_m (fun r j h => by unfold frh at h; rw [Bool.and_eq_true] at h; exact h.1) hN'
      have := k N' (agr_t hA (frh_pC f1))
      rw [show gI S 68 6 = tmV S from hI.2.1.2 6 (by decide)]
      exact this
def oftW (b : Bool) (S : M2) (rem : Nat → Int32) (n : Nat) (t w : Int32) : Int32 := bif decide (w = 0) then nI (cn (fun j => decide (sdn b S rem j = t)) n) else fstB (fun j => decide (sdn b S rem j = t)) 200 0
def oftV (b : Bool) (S : M2) (x y t w : Int32) : Int32 := bif rg x 6 && (rg y 201 && (rg t 16 && rg w 2)) then (bif isRowV S (ix x) 0 then oftW b S (rmS S (ix x)) (ix y) t w else refV S (ix x)) else -1
theorem oft_sm {rem : Nat → Int32} {t : Int32} (ht : ix t < 16) (n : Nat) : sm (fun j => bitV ((1 : Int32) <<< (t &&& 31)) (sdn b S rem j)) n = nI (cn (fun j => decide (sdn b S rem j = t)) n) :=
  sm_cn (fun j => bit1' ht sdn_lt) n
theorem C_often (hI : INV b S) {x y t w : Int32} {f : Int32 → Mm → Prop} (hd : 199 ≤ d) (k : ∀ M', agr (pC b) S M' → f (oftV b S x y t w) (FR b, M')) : WP (d + 1) 107 77 0 [.ref 4, .int x, .int y, .int t, .int w, U] [] 107 (FR b, S) (rI f) := by
  unfold oftV at k
  refine v77_0 (c18 (by omega) (fun h => ⟨rfl, ?_⟩) (fun h => ⟨rfl, c65 (by omega) ⟨rfl, brK_b (fun h2 => ?_) (fun h2 => c78 (by omega) ⟨rfl, brK_b (fun h3 => ?_) (fun h3 => c79 (by omega) ⟨rfl, brK_b (fun h4 => ?_) (fun h4 => ?_)⟩)⟩)⟩⟩))
  · rw [h] at k; exact k S (agr_r S)
  · rw [h, h2] at k; exact k S (agr_r S)
  · rw [h, h2, h3] at k; exact k S (agr_r S)
  · rw [h, h2, h3, h4] at k; exact k S (agr_r S)
  · rw [h, h2, h3, h4] at k
    have hi := rg_tt h
    have hk := sh_kd _ hi
    have hy := rg_tt h2
    refine oK_i hk.2.1 hk.1 (c19 (by omega) hi ⟨rfl, brK_b (fun h5 => oK_i hk.2.1 hk.1 (c66 (by omega) hi ⟨rfl, ?_⟩)) (fun h5 => ?_)⟩)
    · rw [h5] at k; exact k S (agr_r S)
    · rw [h5] at k
      have k : ∀ M', agr (pC b) S M' → f (oftW b S (rmS S (ix x)) (ix y) t w) (FR b, M') := k
      unfold oftW at k
      refine brK_d (fun z => ?_) (fun z => ?_)
      · rw [z] at k
        refine c67 (S := S) (by omega) hi hI h5 (by omega) (agr_r S) (fun N' hN' hT => ⟨rfl, c80 (by omega) (by omega) hT ⟨rfl, ?_⟩⟩)
        rw [oft_sm (rg_tt h3)]
        exact k N' (frt_pC hN')
      · rw [z] at k
        exact c67 (S := S) (by omega) hi hI h5 (by decide) (agr_r S) (fun N' hN' hT => ⟨rfl, c81 (by omega) (by decide) hT ⟨rfl, k N' (frt_pC hN')⟩⟩)
theorem l227 (hd : 5 ≤ d) (hI : INV b S) {x y t w : Int32} (hx : ix x < 6) (hy : ix y ≤ 200) (hr : isRowV S (ix x) 0 = true) {f : Int32 → Mm → Prop} : ∀ (m k : Nat) (N : M2) (v : Int32) (u5 : Value), k + m = 200 → agr (pC b) S N → MS N (hst b S (rmS S (ix x)) k) → Fst (fun j => decide (sdn b S (rmS S (ix x)) j = t)) k v → (∀ M', agr (pC b) S M' → f (oftW b S (rmS S (ix x)) (ix y) t w) (FR b, M')) → WP (d + 1) 107 227 63 [.ref 67, .int x, .int (nI (ix y)), .int t, .int w, u5, .int (nI (cn (fun j => decide (sdn b S (rmS S (ix x)) j = t)) (min k (ix y)))), .int v, .int (nI k)] [] 107 (FR b, N) (rI f) := by
  intro m
  induction m with
  | zero =>
    intro k N v u5 hm hA hs hv q
    have : k = 200 := by omega
    subst this
    refine v227_63 (brK_t (by decide) ?_)
    have k2 := q N hA
    unfold oftW at k2
    refine brK_d (fun z => ?_) (fun z => ?_)
    · rw [z] at k2
      rw [show min 200 (ix y) = ix y by omega]
      exact k2
    · rw [z] at k2
      rw [Fst_u hv (Fst_fstB (fun j => decide (sdn b S (rmS S (ix x)) j = t)) 200 0 (fun l h => absurd h (by omega)))]
      exact k2
  | succ m ih =>
    intro k N v u5 hm hA hs hv q
    have k1 := nI_toInt (n := k) (by omega)
    refine v227_63 (brK_f (fun z => by rw [i_le, show (200 : Int32).toInt = 200 from rfl] at z; omega) (c223 (S := S) (by omega) hI hA hx (by omega) hr ⟨rfl, c225 (S := S) (by omega) hI hA hs (fun N2 hN2 hs2 g33 g34 => ⟨rfl, ?_⟩)⟩))
    have hA2 : agr (pC b) S N2 := agr_t hA (frh_pC hN2)
    dsimp only
    rw [g33]
    have nx := fun v' u' hv' => ih (k + 1) N2 v' u' (by omega) hA2 hs2 hv' q
    have es : sayV b S (hst b S (rmS S (ix x)) k) (tmV S) (rmS S (ix x) k) = sdn b S (rmS S (ix x)) k := rfl
    rw [es]
    have fs := Fst_s hv
    have fn := Fst_neg hv (by omega)
    have ec : ∀ n, cn (fun j => decide (sdn b S (rmS S (ix x)) j = t)) (n + 1) = cn (fun j => decide (sdn b S (rmS S (ix x)) j = t)) n + (bif decide (sdn b S (rmS S (ix x)) n = t) then 1 else 0) := fun _ => rfl
    have ylt : nI (ix y) ≤ nI k ↔ ix y ≤ k := nI_leI (by omega) (by omega)
    have fin : ∀ v', Fst (fun j => decide (sdn b S (rmS S (ix x)) j = t)) (k + 1) v' → sdn b S (rmS S (ix x)) k = t → brK (nI (ix y) ≤ nI k) (WP (d + 1) 107 227 63 [.ref 67, .int x, .int (nI (ix y)), .int t, .int w, u5, .int (nI (cn (fun j => decide (sdn b S (rmS S (ix x)) j = t)) (min k (ix y)))), .int v', .int (nI k + 1)] [] 107 (FR b, N2) (rI f)) (WP (d + 1) 107 227 63 [.ref 67, .int x, .int (nI (ix y)), .int t, .int w, kl u5, .int (nI (cn (fun j => decide (sdn b S (rmS S (ix x)) j = t)) (min k (ix y))) + 1), .int v', .int (nI k + 1)] [] 107 (FR b, N2) (rI f)) := by
      intro v' hv' hz
      have nx2 := fun u' => nx v' u' hv'
      refine ⟨fun z => ?_, fun z => ?_⟩
      · have z2 := ylt.mp z
        rw [show min (k + 1) (ix y) = min k (ix y) by omega] at nx2
        rw [nI_1]
        exact nx2 _
      · have z2 : ¬ ix y ≤ k := fun e => z (ylt.mpr e)
        rw [show min (k + 1) (ix y) = k + 1 by omega, ec, decide_eq_true hz] at nx2
        rw [show min k (ix y) = k by omega, nI_1, nI_1]
        exact nx2 _
    refine ⟨fun z => ⟨fun z2 => ?_, fun z2 => ?_⟩, fun z => ?_⟩
    · exact fin v (fs.2.1 (fn.2.mp z2)) z
    · refine fin (nI k) (fs.2.2 ?_ (decide_eq_true z)) z
      cases hq : cn (fun j => decide (sdn b S (rmS S (ix x)) j = t)) k with
      | zero => rfl
      | succ e => exact absurd (fn.2.mpr (by rw [hq]; omega)) z2
    · have nx2 := nx v u5 (fs.1 (decide_eq_false z))
      have e : cn (fun j => decide (sdn b S (rmS S (ix x)) j = t)) (min (k + 1) (ix y)) = cn (fun j => decide (sdn b S (rmS S (ix x)) j = t)) (min k (ix y)) := by
        by_cases h : ix y ≤ k
        · rw [show min (k + 1) (ix y) = min k (ix y) by omega]
        · rw [show min (k + 1) (ix y) = k + 1 by omega, show min k (ix y) = k by omega, ec, decide_eq_false z]
          rfl
      rw [e] at nx2
      rw [nI_1]
      exact nx2
theorem M_often (hI : INV b S) {x y t w : Int32} {f : Int32 → Mm → Prop} {N : M2} (hd : 199 ≤ d) (hA : agr (pC b) S N) (k : ∀ M', agr (pC b) S M' → f (oftV b S x y t w) (FR b, M')) : WP (d + 1) 107 227 0 [.ref 67, .int x, .int y, .int t, .int w, U, U, U, U] [] 107 (FR b, N) (rI f) := by
  unfold oftV at k
  refine v227_0 (c183 (by omega) ⟨rfl, brK_b (fun h => ?_) (fun h => c220 (by omega) ⟨rfl, brK_b (fun h2 => ?_) (fun h2 => c193 (by omega) ⟨rfl, brK_b (fun h3 => ?_) (fun h3 => c180n 1 (by omega) rfl (by decide) ⟨rfl, brK_b (fun h4 => ?_) (fun h4 => ?_)⟩)⟩)⟩)⟩)
  · rw [h] at k; exact k N hA
  · rw [h, h2] at k; exact k N hA
  · rw [h, h2, h3] at k; exact k N hA
  · have h4 : rg w 2 = false := h4
    rw [h, h2, h3, h4] at k; exact k N hA
  · have h4 : rg w 2 = true := h4
    rw [h, h2, h3, h4] at k
    have hi := rg_tt h
    have hy := rg_tt h2
    refine c221 (S := S) (by omega) hI hA hi (by decide) ⟨rfl, ?_⟩
    cases h5 : isRowV S (ix x) 0 with
    | false =>
      rw [h5] at k
      exact brK_f (rfV_neg S _) (k N hA)
    | true =>
      rw [h5] at k
      refine brK_t (show (0 : Int32) ≤ 0 by decide) (c222 (S := S) (by omega) hI hA (fun N1 hN1 hs1 g33 => ⟨rfl, ?_⟩))
      have := l227 (d := d) (b := b) (S := S) (x := x) (y := y) (t := t) (w := w) (by omega) hI hi (by omega) h5 (f := f) 200 0 N1 (-2) (.int 0) (by omega) (agr_t hA (frh_pC hN1)) hs1 (Fst_0 _) k
      rw [n_ix, show min 0 (ix y) = 0 by omega] at this
      exact this
theorem P_often (hI : INV b S) {x y t w : Int32} : PAIR b S 77 227 [.ref 4, .int x, .int y, .int t, .int w, U] [.ref 67, .int x, .int y, .int t, .int w, U, U, U, U] :=
  PAIR_ro hI (oftV b S x y t w) (fun _ hd _ k => C_often hI hd k) (fun _ hA _ hd _ k => M_often hI hd hA k)
end OFTEN
