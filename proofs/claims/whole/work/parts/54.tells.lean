/-! tellsMost -/
def rmO (r : Nat) : Nat → Int32 := fun k => bif decide (k = 0) then nI r else 0
def alK (b : Bool) (S : M2) (r n : Nat) : Nat := cn (fun j => decide (sdn b S (rmO r) j = sdn b S rmZ j)) n
def tmB (al : Nat → Nat) : Nat → Nat → Int32 → Int32 → Int32 × Int32
  | 0, _, bs, fw => (bs, fw)
  | m + 1, r, bs, fw => bif decide (fw ≤ nI (al r)) then tmB al m (r + 1) bs fw else tmB al m (r + 1) (nI r) (nI (al r))
def tlmV (b : Bool) (S : M2) (y w : Int32) : Int32 := bif inV y 1 12 && rg w 2 then (bif decide (w = 0) then (tmB (fun r => alK b S r (ix y)) 9 1 0 (y + 1)).1 else (tmB (fun r => alK b S r (ix y)) 9 1 0 (y + 1)).2) else -1
theorem inV_t {y lo hi : Int32} (h : ¬ y < lo) (h2 : ¬ hi < y) : inV y lo hi = true := by
  unfold inV
  rw [decide_eq_true (i_nlt h), decide_eq_true (i_nlt h2)]; rfl
theorem inV_fl {y lo hi : Int32} (h : y < lo) : inV y lo hi = false := by
  unfold inV
  rw [decide_eq_false (show ¬ lo ≤ y from fun q => by rw [i_lt] at h; rw [i_le] at q; omega)]; rfl
theorem inV_fh {y lo hi : Int32} (h : hi < y) : inV y lo hi = false := by
  unfold inV
  rw [decide_eq_false (show ¬ y ≤ hi from fun q => by rw [i_lt] at h; rw [i_le] at q; omega), Bool.and_false]
section TELLS
variable {d : Nat} {b : Bool} {S : M2}
theorem c117 {f : Int32 → Mm → Prop} {r : Nat} {y : Int32} {N : M2} (hd : 6 ≤ d) (hI : INV b S) (hA : agr (pC b) S N) (hy : ix y ≤ 12) (hT : ∀ j, j < ix y → gI N 54 j = mun b S rmZ j) (q : ∀ N', agr (fr [6, 17]) N N' → f (nI (alK b S r (ix y))) (FR b, N')) : WP d 107 117 0 [.ref 4, .int (nI r), .int y, U, U, U] [] 107 (FR b, N) (rI f) := by
  obtain ⟨d, rfl⟩ := ex1 (e := 5) hd
  have hL : LawR b S := hI.2.2.2.2.2.2.2.2.2
  have pc : ∀ {N' : M2}, agr (fr [6, 17]) N N' → agr (pC b) N N' := fun h => fr_m (fun a ha j => by
    rcases List.mem_cons.mp ha with e | e
    · rw [e]; rfl
    · rw [List.mem_singleton.mp e]; rfl) h
  have l : ∀ m i (N2 : M2) (u5 : Value), i + m = ix y → agr (fr [6, 17]) N N2 → HW S N2 6 (hst b S (rmO r) i) → WP (d + 1) 107 117 16 [.ref 4, .int (nI r), .int y, .int (nI (alK b S r i)), .int (nI i), u5] [] 107 (FR b, N2) (rI f) := by
    intro m
    induction m with
    | zero =>
      intro i N2 u5 hi hN hs
      have : i = ix y := by omega
      subst this
      exact v117_16 (brK_t (by rw [n_ix, i_le]; exact Int.le_refl _) (q N2 hN))
    | succ m ih =>
      intro i N2 u5 hi hN hs
      have go : WP (d + 1) 107 117 40 [.ref 4, .int (nI r), .int y, .int (nI (alK b S r i)), .int (nI i), u5] [.int (rmO r i), .ref 7, .ref 6] 107 (FR b, N2) (rI f) := by
        refine v117_40 (c71 (S := S) (r := rmO r i) (by omega) (by decide) rfl hL (agr_t hA (pc hN)) hs (fun N3 hN3 hs3 => ⟨rfl, c15 (by omega) (by decide) (Or.inl rfl) ⟨rfl, ?_⟩⟩))
        have hN4 : agr (fr [6, 17]) N N3 := agr_t hN (fr_s (by decide) hN3)
        have e54 : atV N3 54 (nI i) = mun b S rmZ i := by
          unfold atV
          rw [rg_t.mpr (by rw [ix_n (by omega)]; show i < 1000; omega), ix_n (by omega)]
          exact (agr_nI hN4 rfl).trans (hT i (by omega))
        rw [e54]
        have e1 : md (mun b S (rmO r) i) 16 = sdn b S (rmO r) i := mun_md
        have e2 : md (mun b S rmZ i) 16 = sdn b S rmZ i := mun_md
        have e3 : muV S (hst b S (rmO r) i) (sayV b S (hst b S (rmO r) i) (tmV S) (rmO r i)) = mun b S (rmO r) i := rfl
        rw [e3]
        show brK (md (mun b S (rmO r) i) 16 = md (mun b S rmZ i) 16) _ _
        rw [e1, e2]
        have nx := fun u => ih (i + 1) N3 u (by omega) hN4 hs3
        have ea : alK b S r (i + 1) = alK b S r i + (bif decide (sdn b S (rmO r) i = sdn b S rmZ i) then 1 else 0) := rfl
        rw [ea] at nx
        refine brK_d (fun z => ?_) (fun z => ?_)
        · rw [z] at nx; rw [nI_1, nI_1]; exact nx _
        · rw [z] at nx; rw [nI_1, Int32.add_zero]; exact nx _
      refine v117_16 (brK_f (fun z => ?_) ⟨fun z => ?_, fun z => ?_⟩)
      · rw [← n_ix y] at z
        have := (cnt_lt (n := i) (m := ix y) rfl (by omega) (by omega)).mp z
        omega
      · have : i = 0 := by
          have := (ix_eq (n := 0) (by decide)).mp z
          rw [ix_n (by omega)] at this
          exact this
        subst this
        exact go
      · have hz : ¬ i = 0 := fun e => z (by rw [e]; rfl)
        have e : rmO r i = 0 := by unfold rmO; rw [decide_eq_false hz]; rfl
        rw [e] at go
        exact go
  refine v117_0 (c68 (S := S) (by omega) (by decide) rfl (by decide) hA (fun N1 hN1 hs1 => ⟨rfl, ?_⟩))
  exact l (ix y) 0 N1 _ (by omega) (fr_s (by decide) hN1) hs1
theorem al_le (b : Bool) (S : M2) (r n : Nat) : alK b S r n ≤ n := cn_le _ n
theorem P_tellsMost (hI : INV b S) {y w : Int32} : PAIR b S 116 253 [.ref 4, .int y, .int w, U, U, U, U] [.ref 67, .int y, .int w, U, U, U, U, U] := by
  refine PAIR_ro hI (tlmV b S y w) (fun d hd f k => ?_) (fun N hA d hd f k => ?_)
  · unfold tlmV at k
    refine v116_0 ⟨fun h => ?_, fun h => ⟨fun h2 => ?_, fun h2 => c79 (by omega) ⟨rfl, brK_b (fun h3 => ?_) (fun h3 => ?_)⟩⟩⟩
    · rw [inV_fl h] at k; exact k S (agr_r S)
    · rw [inV_fh h2] at k; exact k S (agr_r S)
    · rw [inV_t h h2, h3] at k; exact k S (agr_r S)
    · have hy := inV_1 (n := 12) rfl (by decide) (inV_t h h2)
      rw [inV_t h h2, h3] at k
      refine c67n (S := S) (by omega) hI (by omega) (agr_r S) (fun N1 hN1 hT => ⟨rfl, ?_⟩)
      have l : ∀ m r bs fw (N2 : M2) (u6 : Value), r + m = 10 → agr (fr [6, 17, 54]) S N2 → (∀ j, j < ix y → gI N2 54 j = mun b S rmZ j) → (∀ M', agr (pC b) S M' → f (bif decide (w = 0) then (tmB (fun r => alK b S r (ix y)) m r bs fw).1 else (tmB (fun r => alK b S r (ix y)) m r bs fw).2) (FR b, M')) → WP (d + 1) 107 116 36 [.ref 4, .int y, .int w, .int bs, .int fw, .int (nI r), u6] [] 107 (FR b, N2) (rI f) := by
        intro m
        induction m with
        | zero =>
          intro r bs fw N2 u6 hr hN hT q
          have q2 := q N2 (frt_pC hN)
          refine v116_36 (brK_t (by rw [show (10 : Int32) = nI 10 from rfl, nI_leI (by decide) (by omega)]; omega) (brK_d (fun z => ?_) (fun z => ?_)))
          · rw [z] at q2; exact q2
          · rw [z] at q2; exact q2
        | succ m ih =>
          intro r bs fw N2 u6 hr hN hT q
          refine v116_36 (brK_f (by rw [show (10 : Int32) = nI 10 from rfl, nI_leI (by decide) (by omega)]; omega) (c117 (S := S) (by omega) hI (frt_pC hN) (by omega) hT (fun N3 hN3 => ⟨rfl, ?_⟩)))
          have hT3 : ∀ j, j < ix y → gI N3 54 j = mun b S rmZ j := fun j hj => (agr_nI hN3 rfl).trans (hT j hj)
          have hN4 : agr (fr [6, 17, 54]) S N3 := agr_t hN (fr_s (by decide) hN3)
          unfold tmB at q
          rw [nI_1]
          refine brK_d (fun z => ?_) (fun z => ?_)
          · rw [z] at q; exact ih (r + 1) _ _ _ _ (by omega) hN4 hT3 q
          · rw [z] at q; exact ih (r + 1) _ _ _ _ (by omega) hN4 hT3 q
      exact l 9 1 0 (y + 1) N1 _ (by omega) hN1 hT.2 k
  · unfold tlmV at k
    refine v253_0 (c180 (by omega) ⟨rfl, brK_b (fun h => ?_) (fun h => c180n 1 (by omega) rfl (by decide) ⟨rfl, brK_b (fun h3 => ?_) (fun h3 => ?_)⟩)⟩)
    · rw [h] at k; exact k N hA
    · have h3 : rg w 2 = false := h3
      rw [h, h3] at k; exact k N hA
    · have h3 : rg w 2 = true := h3
      have hy := inV_1 (n := 12) rfl (by decide) h
      rw [h, h3] at k
      have k : ∀ M', agr (pC b) S M' → f (bif decide (w = 0) then (tmB (fun r => alK b S r (ix y)) 8 2 1 (nI (alK b S 1 (ix y)))).1 else (tmB (fun r => alK b S r (ix y)) 8 2 1 (nI (alK b S 1 (ix y)))).2) (FR b, M') := by
        have e : tmB (fun r => alK b S r (ix y)) 9 1 0 (y + 1) = tmB (fun r => alK b S r (ix y)) 8 2 1 (nI (alK b S 1 (ix y))) := by
          show (bif decide (y + 1 ≤ nI (alK b S 1 (ix y))) then _ else _) = _
          have := al_le b S 1 (ix y)
          rw [decide_eq_false (show ¬ y + 1 ≤ nI (alK b S 1 (ix y)) from by rw [← n_ix y, nI_1, n_ix y, nI_leI (by omega) (by omega)]; omega)]
          rfl
        rw [e] at k
        exact k
      have p90 : ∀ {N N' : M2}, agr (frq [90]) N N' → agr (pC b) N N' := fun h => frq_pC (fun a ha j => by rw [List.mem_singleton.mp ha]; rfl) h
      have fill : ∀ (g : Mm → Prop), (∀ N2, agr (frq [90]) N N2 → (∀ j, j < ix y → gI N2 90 j = sdn b S rmZ j) → g (FR b, N2)) → ∀ m i (N2 : M2), i + m = ix y → agr (frq [90]) N N2 → MS N2 (hst b S rmZ i) → (∀ j, j < i → gI N2 90 j = sdn b S rmZ j) → WP d 107 254 6 [.ref 67, .int y, .int (nI i)] [] 107 (FR b, N2) (rV g) := by
        obtain ⟨d, rfl⟩ := ex1 (e := 0) (d := d) (by omega)
        intro g q m
        induction m with
        | zero =>
          intro i N2 hi hN hs hh
          have : i = ix y := by omega
          subst this
          exact v254_6 (brK_t (by rw [n_ix, i_le]; exact Int.le_refl _) (q N2 hN hh))
        | succ m ih =>
          intro i N2 hi hN hs hh
          refine v254_6 (brK_f (fun z => ?_) (c225 (S := S) (r := rmZ i) (by omega) hI (agr_t hA (p90 hN)) hs (fun N3 hN3 hs3 g33 g34 => ⟨rfl, iK_i (by rw [ix_n (by omega)]; omega) ?_⟩)))
          · rw [← n_ix y] at z
            have := (cnt_lt (n := i) (m := ix y) rfl (by omega) (by omega)).mp z
            omega
          · dsimp only
            rw [g33, ix_n (by omega), nI_1]
            refine ih (i + 1) _ (by omega) (agr_sI rfl (agr_t hN (frq_h hN3))) hs3 (fun j hj => ?_)
            by_cases e : j = i
            · subst e; rw [gI_s]; rfl
            · rw [gI_oj e, agr_nI hN3 rfl]; exact hh j (by omega)
      obtain ⟨d', hd'⟩ := ex1 (e := 0) (d := d) (by omega)
      subst hd'
      refine v254_0 (c222 (S := S) (by omega) hI hA (fun N1 hN1 hs1 g33 => ⟨rfl, fill _ (fun N2 hN2 hh2 => ⟨rfl, ?_⟩) (ix y) 0 N1 (by omega) (frq_h hN1) hs1 (fun j hj => absurd hj (by omega))⟩))
      have inner : ∀ r bs fw, (∀ N3 x7, agr (frq [90]) N N3 → (∀ j, j < ix y → gI N3 90 j = sdn b S rmZ j) → brK (bs < 0) (WP (d' + 1 + 1) 107 253 35 [.ref 67, .int y, .int w, .int (nI r), .int (nI (alK b S r (ix y))), .int (nI (r + 1)), .int (nI (alK b S r (ix y))), .int x7] [] 107 (FR b, N3) (rI f)) (brK (nI (alK b S r (ix y)) < fw) (WP (d' + 1 + 1) 107 253 35 [.ref 67, .int y, .int w, .int (nI r), .int (nI (alK b S r (ix y))), .int (nI (r + 1)), .int (nI (alK b S r (ix y))), .int x7] [] 107 (FR b, N3) (rI f)) (WP (d' + 1 + 1) 107 253 35 [.ref 67, .int y, .int w, .int bs, .int fw, .int (nI (r + 1)), .int (nI (alK b S r (ix y))), .int x7] [] 107 (FR b, N3) (rI f)))) → ∀ m i (N3 : M2), i + m = ix y → agr (frq [90]) N N3 → MS N3 (hst b S (rmO r) i) → (∀ j, j < ix y → gI N3 90 j = sdn b S rmZ j) → WP (d' + 1 + 1) 107 253 52 [.ref 67, .int y, .int w, .int bs, .int fw, .int (nI r), .int (nI (alK b S r i)), .int (nI i)] [] 107 (FR b, N3) (rI f) := by
        intro r bs fw q m
        induction m with
        | zero =>
          intro i N3 hi hN hs hh
          have : i = ix y := by omega
          subst this
          refine v253_52 (brK_t (by rw [n_ix, i_le]; exact Int.le_refl _) ?_)
          rw [nI_1]
          exact q N3 _ hN hh
        | succ m ih =>
          intro i N3 hi hN hs hh
          have go : WP (d' + 1 + 1) 107 253 70 [.ref 67, .int y, .int w, .int bs, .int fw, .int (nI r), .int (nI (alK b S r i)), .int (nI i)] [.int (rmO r i), .ref 67] 107 (FR b, N3) (rI f) := by
            refine v253_70 (c225 (S := S) (r := rmO r i) (by omega) hI (agr_t hA (p90 hN)) hs (fun N4 hN4 hs4 g33 g34 => ⟨rfl, iK_i (by rw [ix_n (by omega)]; omega) ?_⟩))
            have e90 : gI N4 90 (ix (nI i)) = sdn b S rmZ i := by rw [ix_n (by omega), agr_nI hN4 rfl]; exact hh i (by omega)
            have e33 : gI N4 67 33 = sdn b S (rmO r) i := g33
            dsimp only
            rw [e33, e90, nI_1, nI_1]
            have nx := ih (i + 1) N4 (by omega) (agr_t hN (frq_h hN4)) hs4 (fun j hj => by rw [agr_nI hN4 rfl]; exact hh j hj)
            have ea : alK b S r (i + 1) = alK b S r i + (bif decide (sdn b S (rmO r) i = sdn b S rmZ i) then 1 else 0) := rfl
            rw [ea] at nx
            refine brK_d (fun z => ?_) (fun z => ?_)
            · rw [z] at nx; exact nx
            · rw [z] at nx; exact nx
          refine v253_52 (brK_f (fun z => ?_) ⟨fun z => ?_, fun z => ?_⟩)
          · rw [← n_ix y] at z
            have := (cnt_lt (n := i) (m := ix y) rfl (by omega) (by omega)).mp z
            omega
          · have : i = 0 := by
              have := (ix_eq (n := 0) (by decide)).mp z
              rw [ix_n (by omega)] at this
              exact this
            subst this
            exact go
          · have hz : ¬ i = 0 := fun e => z (by rw [e]; rfl)
            have e : rmO r i = 0 := by unfold rmO; rw [decide_eq_false hz]; rfl
            rw [e] at go
            exact go
      have outer : ∀ m r bs fw (N3 : M2) (u6 u7 : Value), r + m = 10 → 2 ≤ r → ¬ bs < 0 → agr (frq [90]) N N3 → (∀ j, j < ix y → gI N3 90 j = sdn b S rmZ j) → (∀ M', agr (pC b) S M' → f (bif decide (w = 0) then (tmB (fun r => alK b S r (ix y)) m r bs fw).1 else (tmB (fun r => alK b S r (ix y)) m r bs fw).2) (FR b, M')) → WP (d' + 1 + 1) 107 253 35 [.ref 67, .int y, .int w, .int bs, .int fw, .int (nI r), u6, u7] [] 107 (FR b, N3) (rI f) := by
        intro m
        induction m with
        | zero =>
          intro r bs fw N3 u6 u7 hr h2 hb hN hh q
          have q2 := q N3 (agr_t hA (p90 hN))
          refine v253_35 (brK_t (by rw [show (10 : Int32) = nI 10 from rfl, nI_leI (by decide) (by omega)]; omega) (brK_d (fun z => ?_) (fun z => ?_)))
          · rw [z] at q2; exact q2
          · rw [z] at q2; exact q2
        | succ m ih =>
          intro r bs fw N3 u6 u7 hr h2 hb hN hh q
          unfold tmB at q
          refine v253_35 (brK_f (by rw [show (10 : Int32) = nI 10 from rfl, nI_leI (by decide) (by omega)]; omega) (c222 (S := S) (by omega) hI (agr_t hA (p90 hN)) (fun N4 hN4 hs4 g33 => ⟨rfl, ?_⟩)))
          refine inner r bs fw (fun N5 x7 hN5 hh5 => brK_f hb ⟨fun z => ?_, fun z => ?_⟩) (ix y) 0 N4 (by omega) (agr_t hN (frq_h hN4)) hs4 (fun j hj => by rw [agr_nI hN4 rfl]; exact hh j hj)
          · rw [decide_eq_false (show ¬ fw ≤ nI (alK b S r (ix y)) from fun e => by rw [i_le] at e; rw [i_lt] at z; omega)] at q
            exact ih (r + 1) _ _ _ _ _ (by omega) (by omega) (nI_pos (by omega)) hN5 hh5 q
          · rw [decide_eq_true (i_nlt z)] at q
            exact ih (r + 1) _ _ _ _ _ (by omega) (by omega) hb hN5 hh5 q
      refine v253_35 (brK_f (by decide) (c222 (S := S) (by omega) hI (agr_t hA (p90 hN2)) (fun N4 hN4 hs4 g33 => ⟨rfl, ?_⟩)))
      exact inner 1 (-2) 0 (fun N5 x7 hN5 hh5 => brK_t (by decide) (outer 8 2 1 _ N5 _ _ (by omega) (by omega) (by decide) hN5 hh5 k)) (ix y) 0 N4 (by omega) (agr_t hN2 (frq_h hN4)) hs4 (fun j hj => by rw [agr_nI hN4 rfl]; exact hh2 j hj)
end TELLS
