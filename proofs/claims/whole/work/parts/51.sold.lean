/-! sold, places, when -/
def frq (l : List Nat) : Nat → Nat → Bool := fun r j => nin l r && frh r j
theorem frq_h {l : List Nat} {N N' : M2} (h : agr frh N N') : agr (frq l) N N' := agr_m (fun r j q => by unfold frq at q; rw [Bool.and_eq_true] at q; exact q.2) h
theorem frq_pC {b : Bool} {l : List Nat} (hl : ∀ a, a ∈ l → ∀ j, pC b a j = false) {N N' : M2} (h : agr (frq l) N N') : agr (pC b) N N' := by
  refine agr_m (fun r j q => ?_) h
  unfold frq
  rw [nin_c hl r j q]
  have : agr frh (fun r j => bif frh r j then (0 : Int32) else 1, fun _ _ => 0) (fun _ _ => 0, fun _ _ => 0) := fun r j q => ⟨by
    show (0 : Int32) = bif frh r j then 0 else 1
    rw [q]; rfl, rfl⟩
  have z := (frh_pC (b := b) this r j q).1
  have z : (0 : Int32) = bif frh r j then 0 else 1 := z
  cases hf : frh r j with
  | true => rfl
  | false => rw [hf] at z; exact absurd z (by decide)
theorem atS {b : Bool} {S N : M2} (hA : agr (pC b) S N) {r : Nat} {i : Int32} (hr : pC b r (ix i) = true) (h : ix i < ln r) : atV N r i = gI S r (ix i) := by
  unfold atV
  rw [rg_t.mpr h]
  exact agr_nI hA hr
/-- what one stall sells -/
def htV (b : Bool) (S : M2) (rem : Nat → Int32) (s n : Nat) : Int32 := sm (fun j => bitV (gI S 19 s) (sdn b S rem j)) n
def slV (b : Bool) (S : M2) (rem : Nat → Int32) (s : Nat) (c : Int32) (n : Nat) : Int32 := bif decide (gI S 5 5 < c) then 0 else htV b S rem s n
def pcV (b : Bool) (S : M2) (rem : Nat → Int32) (s : Nat) (c : Int32) (n : Nat) : Int32 := slV b S rem s c n * gI S 20 s
def allPc (b : Bool) (S : M2) (rem : Nat → Int32) (n k : Nat) : Int32 := sm (fun j => pcV b S rem j (gI S 21 j) n) k
def cnS (S : M2) : Nat := ix (gI S 18 0)
def soldV (b : Bool) (S : M2) (x y s : Int32) : Int32 := bif rg x 6 && (rg y 201 && (decide (s = -1) || rg s (cnS S))) then (bif isRowV S (ix x) 0 then (bif decide (s < 0) then allPc b S (rmS S (ix x)) (ix y) (cnS S) else slV b S (rmS S (ix x)) (ix s) (gI S 21 (ix s)) (ix y)) else refV S (ix x)) else -1
theorem rg_neg {s : Int32} {n : Nat} (hn : n < 2147483648) (h : rg s n = true) : ¬ s < 0 ∧ ¬ s = -1 := by
  have h1 := rg_tt h
  have h2 := ix_t s
  constructor
  · intro q
    rw [i_lt, z_toInt] at q
    omega
  · intro q
    subst q
    rw [show ix (-1) = 4294967295 from rfl] at h1
    omega
theorem inV_m1 {v c : Int32} (hc : ix c < 2147483648) : inV v (-1) (c - 1) = (decide (v = -1) || rg v (ix c)) := by
  have c1 := ix_t c
  have hc' : 0 ≤ c.toInt := by omega
  have h1 := m1_toInt c hc'
  have v1 := ix_t v
  have m : (-1 : Int32).toInt = -1 := rfl
  unfold inV
  by_cases h : v = -1
  · subst h
    rw [decide_eq_true (show (-1 : Int32) = -1 from rfl), decide_eq_true (show (-1 : Int32) ≤ -1 by decide), decide_eq_true (show (-1 : Int32) ≤ c - 1 by rw [i_le, m]; omega)]
    rfl
  · rw [decide_eq_false h, Bool.false_or]
    have hv : v.toInt ≠ -1 := fun q => h (i_eq.mpr q)
    cases hr : rg v (ix c) with
    | true =>
      have := rg_tt hr
      rw [decide_eq_true (show (-1 : Int32) ≤ v by rw [i_le, m]; omega), decide_eq_true (show v ≤ c - 1 by rw [i_le]; omega)]
      rfl
    | false =>
      have := rg_f.mp hr
      by_cases q : (-1 : Int32) ≤ v
      · rw [decide_eq_true q, decide_eq_false (show ¬ v ≤ c - 1 by rw [i_le, m] at q; rw [i_le]; omega)]
        rfl
      · rw [decide_eq_false q]; rfl
section SOLD
variable {d : Nat} {b : Bool} {S : M2} {rem : Nat → Int32}
theorem c119 {f : Int32 → Mm → Prop} {s c n : Int32} {N : M2} (hd : 2 ≤ d) (hA : agr (pC b) S N) (hs : ix s < 6) (hn : ix n ≤ 1000) (hT : TrK b S rem (ix n) N) (k : f (slV b S rem (ix s) c (ix n)) (FR b, N)) : WP d 107 119 0 [.ref 4, .int s, .int c, .int n] [] 107 (FR b, N) (rI f) := by
  obtain ⟨d, rfl⟩ := ex1 (e := 1) hd
  have e : gI N 5 5 = gI S 5 5 := agr_nI hA rfl
  unfold slV at k
  refine v119_0 ?_
  rw [e]
  refine brK_d (fun z => ?_) (fun z => c15 (by omega) (by decide) (Or.inl rfl) ⟨rfl, ?_⟩)
  · rw [z] at k; exact k
  · rw [z] at k
    rw [atS hA rfl hs]
    exact c80 (by omega) hn hT ⟨rfl, k⟩
theorem c120 {f : Int32 → Mm → Prop} {s c n : Int32} {N : M2} (hd : 3 ≤ d) (hA : agr (pC b) S N) (hs : ix s < 6) (hn : ix n ≤ 1000) (hT : TrK b S rem (ix n) N) (k : f (pcV b S rem (ix s) c (ix n)) (FR b, N)) : WP d 107 120 0 [.ref 4, .int s, .int c, .int n] [] 107 (FR b, N) (rI f) := by
  obtain ⟨d, rfl⟩ := ex1 (e := 2) hd
  refine v120_0 (c119 (by omega) hA hs hn hT ⟨rfl, c15 (by omega) (by decide) (Or.inl rfl) ⟨rfl, ?_⟩⟩)
  rw [atS hA rfl hs]
  exact k
theorem C_sold (hI : INV b S) {x y s : Int32} {f : Int32 → Mm → Prop} (hd : 199 ≤ d) (k : ∀ M', agr (pC b) S M' → f (soldV b S x y s) (FR b, M')) : WP (d + 1) 107 118 0 [.ref 4, .int x, .int y, .int s, U, U, U] [] 107 (FR b, S) (rI f) := by
  have hc6 : cnS S ≤ 6 := hI.2.2.1.1
  have hnn : 0 ≤ (gI S 18 0).toInt := by have := ix_t (gI S 18 0); unfold cnS at hc6; omega
  unfold soldV at k
  have go : rg x 6 = true → rg y 201 = true → (decide (s = -1) || rg s (cnS S)) = true → WP (d + 1) 107 118 37 [.ref 4, .int x, .int y, .int s, .ref (shC (ix x)), U, U] [] 107 (FR b, S) (rI f) := by
    intro h h2 h3
    rw [h, h2, h3] at k
    have hi := rg_tt h
    have hk := sh_kd _ hi
    have hy := rg_tt h2
    refine v118_37 (oK_i hk.2.1 hk.1 (c19 (by omega) hi ⟨rfl, brK_b (fun h5 => oK_i hk.2.1 hk.1 (c66 (by omega) hi ⟨rfl, ?_⟩)) (fun h5 => c67 (S := S) (by omega) hi hI h5 (by omega) (agr_r S) (fun N' hN' hT => ⟨rfl, brK_d (fun z => ?_) (fun z => ?_)⟩))⟩))
    · rw [h5] at k; exact k S (agr_r S)
    · rw [h5, z] at k
      have hA : agr (pC b) S N' := frt_pC hN'
      have k2 : f (allPc b S (rmS S (ix x)) (ix y) (cnS S)) (FR b, N') := k N' hA
      have l : ∀ m i (u4 : Value), i + m = cnS S → WP (d + 1) 107 118 87 [.ref 4, .int x, .int y, .int s, u4, .int (allPc b S (rmS S (ix x)) (ix y) i), .int (nI i)] [] 107 (FR b, N') (rI f) := by
        intro m
        induction m with
        | zero =>
          intro i u4 hi
          have : i = cnS S := by omega
          subst this
          refine v118_87 (brK_t ?_ k2)
          rw [agr_nI hA rfl]
          unfold cnS
          rw [n_ix, i_le]
          exact Int.le_refl _
        | succ m ih =>
          intro i u4 hi
          have hs6 : ix (nI i) < 6 := by rw [ix_n (by omega)]; omega
          have e1 : ix (nI i) = i := ix_n (by omega)
          refine v118_87 (brK_f (fun z => ?_) (c15 (by omega) (by decide) (Or.inl rfl) ⟨rfl, c120 (S := S) (by omega) hA hs6 (by omega) hT ⟨rfl, ?_⟩⟩))
          · rw [agr_nI (p := pC b) hA rfl, ← n_ix (gI S 18 0)] at z
            have := (cnt_lt (n := i) (m := cnS S) rfl (by omega) (by omega)).mp z
            omega
          · rw [atS hA rfl hs6, e1, nI_1]
            exact ih (i + 1) _ (by omega)
      exact l (cnS S) 0 _ (by omega)
    · rw [h5, z] at k
      have hA : agr (pC b) S N' := frt_pC hN'
      have hs : rg s (cnS S) = true := by
        cases hm : decide (s = -1) with
        | false => rw [hm, Bool.false_or] at h3; exact h3
        | true => rw [of_decide_eq_true hm] at z; exact absurd z (by decide)
      have hs6 : ix s < 6 := by have := rg_tt hs; omega
      refine c15 (by omega) (by decide) (Or.inl rfl) ⟨rfl, ?_⟩
      rw [atS hA rfl hs6]
      exact c119 (S := S) (by omega) hA hs6 (by omega) hT ⟨rfl, k N' hA⟩
  refine v118_0 (c18 (by omega) (fun h => ⟨rfl, ?_⟩) (fun h => ⟨rfl, c65 (by omega) ⟨rfl, brK_b (fun h2 => ?_) (fun h2 => brK_d (fun h3 => ?_) (fun h3 => c27 (by omega) hnn ⟨rfl, brK_b (fun h4 => ?_) (fun h4 => ?_)⟩))⟩⟩))
  · rw [h] at k; exact k S (agr_r S)
  · rw [h, h2] at k; exact k S (agr_r S)
  · exact go h h2 (by rw [h3]; rfl)
  · have h4 : rg s (cnS S) = false := h4
    rw [h, h2, h3, h4] at k; exact k S (agr_r S)
  · exact go h h2 (by rw [h3, Bool.false_or]; exact h4)
/-! findHits -/
theorem pC91 : ∀ b j, pC b 91 j = false := fun _ _ => rfl
theorem fr91 {N N' : M2} (h : agr (frq [91]) N N') : agr (pC b) N N' := frq_pC (fun a ha j => by rw [List.mem_singleton.mp ha]; exact pC91 b j) h
def HtK (b : Bool) (S : M2) (rem : Nat → Int32) (n : Nat) (N : M2) : Prop := ∀ s, s < cnS S → gI N 91 s = htV b S rem s n
theorem vil_e (hI : INV b S) {N : M2} (hA : agr (pC b) S N) {j : Nat} (hj : j < 6) : gI N 69 j = gI S 19 j ∧ gI N 70 j = gI S 20 j ∧ gI N 71 j = gI S 21 j ∧ gI N 72 j = gI S 22 j :=
  have h := (hI.2.2.1.2.2 j hj).2
  ⟨(agr_nI hA rfl).trans h.1, (agr_nI hA rfl).trans h.2.1, (agr_nI hA rfl).trans h.2.2.1, (agr_nI hA rfl).trans h.2.2.2⟩
theorem cnt_e (hI : INV b S) {N : M2} (hA : agr (pC b) S N) : gI N 67 2 = nI (cnS S) := by
  rw [agr_nI (p := pC b) hA rfl, hI.2.2.1.2.1]
  exact (n_ix _).symm
theorem c256 {g : Mm → Prop} {x y : Int32} {N : M2} (hd : 6 ≤ d) (hI : INV b S) (hA : agr (pC b) S N) (hy : ix y ≤ 200) (hx1 : 0 ≤ x → ix x < 6 ∧ isRowV S (ix x) 0 = true ∧ rem = rmS S (ix x)) (hx2 : ¬ 0 ≤ x → rem = rmZ) (q : ∀ N', agr (frq [91]) N N' → HtK b S rem (ix y) N' → g (FR b, N')) : WP d 107 256 0 [.ref 67, .int x, .int y, U, U] [] 107 (FR b, N) (rV g) := by
  obtain ⟨d, rfl⟩ := ex1 (e := 5) hd
  have hc6 : cnS S ≤ 6 := hI.2.2.1.1
  have inner : ∀ (k : Nat), (∀ (N2 : M2), agr (frq [91]) N N2 → MS N2 (hst b S rem (k + 1)) → HtK b S rem (k + 1) N2 → ∀ u4, WP (d + 1) 107 256 29 [.ref 67, .int x, .int y, .int (nI (k + 1)), u4] [] 107 (FR b, N2) (rV g)) → ∀ m i (N1 : M2), i + m = cnS S → agr (frq [91]) N N1 → MS N1 (hst b S rem (k + 1)) → gI N1 67 33 = sdn b S rem k → (∀ s, s < cnS S → gI N1 91 s = bif decide (s < i) then htV b S rem s (k + 1) else htV b S rem s k) → WP (d + 1) 107 256 55 [.ref 67, .int x, .int y, .int (nI k), .int (nI i)] [] 107 (FR b, N1) (rV g) := by
    intro k kk m
    induction m with
    | zero =>
      intro i N1 hi hN hs h33 hh
      have : i = cnS S := by omega
      subst this
      refine v256_55 (brK_t ?_ ?_)
      · rw [cnt_e hI (agr_t hA (fr91 hN)), i_le]; exact Int.le_refl _
      · rw [nI_1]
        exact kk N1 hN hs (fun s hs => by rw [hh s hs, decide_eq_true hs]; rfl) _
    | succ m ih =>
      intro i N1 hi hN hs h33 hh
      have hA1 := agr_t hA (fr91 (b := b) hN)
      have e1 : ix (nI i) = i := ix_n (by omega)
      refine v256_55 (brK_f (fun z => ?_) (iK_i (by rw [e1]; omega) (iK_i (by rw [e1]; omega) (iK_i (by rw [e1]; omega) ?_))))
      · rw [cnt_e hI hA1] at z
        have := (cnt_lt (n := i) (m := cnS S) rfl (by omega) (by omega)).mp z
        omega
      · rw [e1, (vil_e hI hA1 (by omega)).1, h33, hh i (by omega), decide_eq_false (show ¬ i < i by omega), nI_1]
        refine ih (i + 1) _ (by omega) (agr_sI rfl hN) hs h33 (fun s hs' => ?_)
        by_cases e : s = i
        · subst e
          rw [gI_s, decide_eq_true (show s < s + 1 by omega)]
          rfl
        · rw [gI_oj e, hh s hs']
          congr 1
          exact decide_eq_decide.mpr (by omega)
  have outer : ∀ m k (N1 : M2) (u4 : Value), k + m = ix y → agr (frq [91]) N N1 → MS N1 (hst b S rem k) → HtK b S rem k N1 → WP (d + 1) 107 256 29 [.ref 67, .int x, .int y, .int (nI k), u4] [] 107 (FR b, N1) (rV g) := by
    intro m
    induction m with
    | zero =>
      intro k N1 u4 hk hN hs hh
      have : k = ix y := by omega
      subst this
      exact v256_29 (brK_t (by rw [n_ix, i_le]; exact Int.le_refl _) (q N1 hN hh))
    | succ m ih =>
      intro k N1 u4 hk hN hs hh
      have hA1 := agr_t hA (fr91 (b := b) hN)
      have step : ∀ N2, agr frh N1 N2 → MS N2 (hst b S rem (k + 1)) → gI N2 67 33 = sdn b S rem k → WP (d + 1) 107 256 55 [.ref 67, .int x, .int y, .int (nI k), .int 0] [] 107 (FR b, N2) (rV g) := by
        intro N2 hN2 hs2 g33
        refine inner k (fun N3 hN3 hs3 hh3 u => ih (k + 1) N3 u (by omega) hN3 hs3 hh3) (cnS S) 0 N2 (by omega) (agr_t hN (frq_h hN2)) hs2 g33 (fun s hs' => ?_)
        rw [agr_nI hN2 rfl, hh s hs', decide_eq_false (show ¬ s < 0 by omega)]
        rfl
      refine v256_29 (brK_f (fun z => ?_) ⟨fun z => ?_, fun z => ?_⟩)
      · rw [← n_ix y] at z
        have := (cnt_lt (n := k) (m := ix y) rfl (by omega) (by omega)).mp z
        omega
      · obtain ⟨h6, hr, he⟩ := hx1 z
        refine c223 (S := S) (by omega) hI hA1 h6 (by omega) hr ⟨rfl, ?_⟩
        rw [← he]
        exact c225 (S := S) (by omega) hI hA1 hs (fun N2 hN2 hs2 g33 g34 => ⟨rfl, step N2 hN2 hs2 g33⟩)
      · have he := hx2 z
        subst he
        exact c225 (S := S) (r := rmZ k) (by omega) hI hA1 hs (fun N2 hN2 hs2 g33 g34 => ⟨rfl, step N2 hN2 hs2 g33⟩)
  have clear : ∀ m i (N1 : M2) (u4 : Value), i + m = cnS S → agr (frq [91]) N N1 → (∀ s, s < i → gI N1 91 s = 0) → WP (d + 1) 107 256 2 [.ref 67, .int x, .int y, .int (nI i), u4] [] 107 (FR b, N1) (rV g) := by
    intro m
    induction m with
    | zero =>
      intro i N1 u4 hi hN hh
      have : i = cnS S := by omega
      subst this
      have hA1 := agr_t hA (fr91 (b := b) hN)
      refine v256_2 (brK_t (by rw [cnt_e hI hA1, i_le]; exact Int.le_refl _) (c222 (S := S) (by omega) hI hA1 (fun N2 hN2 hs2 g33 => ⟨rfl, ?_⟩)))
      exact outer (ix y) 0 N2 _ (by omega) (agr_t hN (frq_h hN2)) hs2 (fun s hs => (agr_nI hN2 rfl).trans (hh s hs))
    | succ m ih =>
      intro i N1 u4 hi hN hh
      have hA1 := agr_t hA (fr91 (b := b) hN)
      have e1 : ix (nI i) = i := ix_n (by omega)
      refine v256_2 (brK_f (fun z => ?_) (iK_i (by rw [e1]; omega) ?_))
      · rw [cnt_e hI hA1] at z
        have := (cnt_lt (n := i) (m := cnS S) rfl (by omega) (by omega)).mp z
        omega
      · rw [e1, nI_1]
        refine ih (i + 1) _ _ (by omega) (agr_sI rfl hN) (fun s hs => ?_)
        by_cases e : s = i
        · subst e; exact gI_s ..
        · rw [gI_oj e]; exact hh s (by omega)
  exact v256_0 (clear (cnS S) 0 N U (by omega) (agr_r N) (fun s hs => absurd hs (by omega)))
theorem c257 {f : Int32 → Mm → Prop} {s : Int32} {n : Nat} {N : M2} (hd : 1 ≤ d) (hI : INV b S) (hA : agr (pC b) S N) (hs : ix s < cnS S) (hh : HtK b S rem n N) (k : f (slV b S rem (ix s) (gI S 21 (ix s)) n) (FR b, N)) : WP d 107 257 0 [.ref 67, .int s] [] 107 (FR b, N) (rI f) := by
  obtain ⟨d, rfl⟩ := ex1 hd
  have hc6 : cnS S ≤ 6 := hI.2.2.1.1
  unfold slV at k
  refine v257_0 (iK_i (by omega) ?_)
  rw [e68 hI hA (by decide), (vil_e hI hA (by omega)).2.2.1]
  refine brK_d (fun z => ?_) (fun z => iK_i (by omega) ?_)
  · rw [z] at k; exact k
  · rw [z] at k
    rw [hh _ hs]
    exact k
theorem M_sold (hI : INV b S) {x y s : Int32} {f : Int32 → Mm → Prop} {N : M2} (hd : 199 ≤ d) (hA : agr (pC b) S N) (k : ∀ M', agr (pC b) S M' → f (soldV b S x y s) (FR b, M')) : WP (d + 1) 107 255 0 [.ref 67, .int x, .int y, .int s, U, U, U] [] 107 (FR b, N) (rI f) := by
  have hc6 : cnS S ≤ 6 := hI.2.2.1.1
  have c18' : ix (gI S 18 0) < 2147483648 := by unfold cnS at hc6; omega
  unfold soldV at k
  refine v255_0 (c183 (by omega) ⟨rfl, brK_b (fun h => ?_) (fun h => c220 (by omega) ⟨rfl, brK_b (fun h2 => ?_) (fun h2 => c180 (by omega) ⟨rfl, ?_⟩)⟩)⟩)
  · rw [h] at k; exact k N hA
  · rw [h, h2] at k; exact k N hA
  · have e2 : gI N 67 2 = gI S 18 0 := by rw [cnt_e hI hA]; exact n_ix _
    dsimp only
    rw [e2, inV_m1 c18']
    refine brK_b (fun h3 => ?_) (fun h3 => ?_)
    · have h3 : (decide (s = -1) || rg s (cnS S)) = false := h3
      rw [h, h2, h3] at k; exact k N hA
    · have h3 : (decide (s = -1) || rg s (cnS S)) = true := h3
      rw [h, h2, h3] at k
      have hi := rg_tt h
      have hy := rg_tt h2
      refine c221 (S := S) (by omega) hI hA hi (by decide) ⟨rfl, ?_⟩
      cases h5 : isRowV S (ix x) 0 with
      | false =>
        rw [h5] at k
        exact brK_f (rfV_neg S _) (k N hA)
      | true =>
        rw [h5] at k
        refine brK_t (show (0 : Int32) ≤ 0 by decide) (c256 (S := S) (rem := rmS S (ix x)) (by omega) hI hA (by omega) (fun _ => ⟨hi, h5, rfl⟩) (fun z => absurd ?_ z) (fun N' hN' hh => ⟨rfl, brK_d (fun z => ?_) (fun z => ?_)⟩))
        · have := ix_t x
          rw [i_le, z_toInt]
          omega
        · rw [z] at k
          have hA1 := agr_t hA (fr91 (b := b) hN')
          have k2 : f (allPc b S (rmS S (ix x)) (ix y) (cnS S)) (FR b, N') := k N' hA1
          have l : ∀ m i (u4 : Value), i + m = cnS S → WP (d + 1) 107 255 68 [.ref 67, .int x, .int y, .int s, u4, .int (allPc b S (rmS S (ix x)) (ix y) i), .int (nI i)] [] 107 (FR b, N') (rI f) := by
            intro m
            induction m with
            | zero =>
              intro i u4 hi
              have : i = cnS S := by omega
              subst this
              exact v255_68 (brK_t (by rw [cnt_e hI hA1, i_le]; exact Int.le_refl _) k2)
            | succ m ih =>
              intro i u4 hi
              have e1 : ix (nI i) = i := ix_n (by omega)
              refine v255_68 (brK_f (fun z => ?_) (iK_i (by rw [e1]; omega) (c257 (S := S) (by omega) hI hA1 (by rw [e1]; omega) hh ⟨rfl, ?_⟩)))
              · rw [cnt_e hI hA1] at z
                have := (cnt_lt (n := i) (m := cnS S) rfl (by omega) (by omega)).mp z
                omega
              · rw [e1, (vil_e hI hA1 (by omega)).2.1, nI_1, Int32.mul_comm]
                exact ih (i + 1) _ (by omega)
          exact l (cnS S) 0 _ (by omega)
        · rw [z] at k
          have hA1 := agr_t hA (fr91 (b := b) hN')
          have hs : rg s (cnS S) = true := by
            cases hm : decide (s = -1) with
            | false => rw [hm, Bool.false_or] at h3; exact h3
            | true => rw [of_decide_eq_true hm] at z; exact absurd z (by decide)
          exact c257 (S := S) (by omega) hI hA1 (rg_tt hs) hh ⟨rfl, k N' hA1⟩
theorem P_sold (hI : INV b S) {x y s : Int32} : PAIR b S 118 255 [.ref 4, .int x, .int y, .int s, U, U, U] [.ref 67, .int x, .int y, .int s, U, U, U] :=
  PAIR_ro hI (soldV b S x y s) (fun _ hd _ k => C_sold hI hd k) (fun _ hA _ hd _ k => M_sold hI hd hA k)
end SOLD
