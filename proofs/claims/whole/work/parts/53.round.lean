/-! round -/
def allV (s : St) : Int32 := ((s.1 * 10 + s.2.1) * 16 + s.2.2.1) * 24 + s.2.2.2
def aZ (b : Bool) (S : M2) (n : Nat) : Int32 := allV (hst b S rmZ n)
def rdW (A : Nat → Int32) (w : Int32) : Nat → Nat → Int32
  | 0, _ => -2
  | m + 1, k => bif decide (cn (fun j => decide (A j = A k)) k = 0) then rdW A w m (k + 1) else bif decide (w = 0) then nI k else fstB (fun j => decide (A j = A k)) k 0
def rndV (b : Bool) (S : M2) (w : Int32) : Int32 := bif rg w 2 then rdW (aZ b S) w 999 1 else -1
theorem allV_ix {s : St} (h : SB s) : ix (allV s) = ((ix s.1 * 10 + ix s.2.1) * 16 + ix s.2.2.1) * 24 + ix s.2.2.2 := by
  obtain ⟨h1, h2, h3, h4⟩ := h
  have i10 : ix 10 = 10 := rfl
  have i16 : ix 16 = 16 := rfl
  have i24 : ix 24 = 24 := rfl
  have a1 : ix (s.1 * 10) = ix s.1 * 10 := by rw [ix_mul (by rw [i10]; omega), i10]
  have a2 : ix (s.1 * 10 + s.2.1) = ix s.1 * 10 + ix s.2.1 := by rw [ix_add (by rw [a1]; omega), a1]
  have a3 : ix ((s.1 * 10 + s.2.1) * 16) = (ix s.1 * 10 + ix s.2.1) * 16 := by rw [ix_mul (by rw [a2, i16]; omega), a2, i16]
  have a4 : ix ((s.1 * 10 + s.2.1) * 16 + s.2.2.1) = (ix s.1 * 10 + ix s.2.1) * 16 + ix s.2.2.1 := by rw [ix_add (by rw [a3]; omega), a3]
  have a5 : ix (((s.1 * 10 + s.2.1) * 16 + s.2.2.1) * 24) = ((ix s.1 * 10 + ix s.2.1) * 16 + ix s.2.2.1) * 24 := by rw [ix_mul (by rw [a4, i24]; omega), a4, i24]
  unfold allV
  rw [ix_add (by rw [a5]; omega), a5]
theorem hour_n {b : Bool} {S : M2} (hH : HimW S 5) {rem : Nat → Int32} (hr : ∀ k, ix (rem k) < 10) : ∀ n, ix (hst b S rem n).2.2.2 = (ix (gI S 5 3) + n) % 24
  | 0 => by
    have h3 : ix (gI S 5 3) < 24 := hH 3 (by decide)
    show ix (gI S 5 3) = _
    omega
  | n + 1 => by
    have ih := hour_n hH hr (b := b) n
    have hb := (SB_hst (b := b) hH hr n).2.2.2
    have a4 : ix ((hst b S rem n).2.2.2 + 1) = ix (hst b S rem n).2.2.2 + 1 := ix_add (y := 1) (by rw [show ix 1 = 1 from rfl]; omega)
    show ix (md ((hst b S rem n).2.2.2 + 1) 24) = _
    rw [md_ix (n := 24) (m := 24) rfl (by decide) (by rw [a4]; omega), a4, ih]
    omega
theorem aZ_24 {b : Bool} {S : M2} (hH : HimW S 5) {j k : Nat} (h : aZ b S j = aZ b S k) : j % 24 = k % 24 := by
  have h1 := allV_ix (SB_hst (b := b) hH rmZ_lt j)
  have h2 := allV_ix (SB_hst (b := b) hH rmZ_lt k)
  have h3 := hour_n (b := b) hH rmZ_lt j
  have h4 := hour_n (b := b) hH rmZ_lt k
  have h5 : ix (aZ b S j) = ix (aZ b S k) := by rw [h]
  have h6 : ix (aZ b S j) = ix (allV (hst b S rmZ j)) := rfl
  have h7 : ix (aZ b S k) = ix (allV (hst b S rmZ k)) := rfl
  omega
section ROUND
variable {d : Nat} {b : Bool} {S : M2}
theorem c83 {f : Int32 → Mm → Prop} {s : St} {h : Nat} {N : M2} (hd : 1 ≤ d) (hr : h < 107) (hk : kd h = 3) (hs : HW S N h s) (k : f (allV s) (FR b, N)) : WP d 107 83 0 [.ref h] [] 107 (FR b, N) (rI f) := by
  obtain ⟨d, rfl⟩ := ex1 hd
  refine v83_0 (oK_i hr hk (oK_i hr hk (oK_i hr hk (oK_i hr hk ?_))))
  rw [hs.1.1, hs.1.2.1, hs.1.2.2.1, hs.1.2.2.2.1]
  exact k
theorem c84 {f : Int32 → Mm → Prop} {k : Nat} {N : M2} (hd : 2 ≤ d) (hI : INV b S) (hk : k < 1000) (hT : ∀ j, j ≤ k → gI N 54 j = aZ b S j) (q : ∀ v, Fst (fun j => decide (aZ b S j = aZ b S k)) k v → f v (FR b, N)) : WP d 107 84 0 [.ref 4, .int (nI k), U] [] 107 (FR b, N) (rI f) := by
  obtain ⟨d, rfl⟩ := ex1 (e := 1) hd
  have hH := hI.2.1.1
  have l : ∀ m a, k ≤ a + 24 * m → a % 24 = k % 24 → a < 1100 → (∀ l, l < a → l < k → decide (aZ b S l = aZ b S k) = false) → WP (d + 1) 107 84 5 [.ref 4, .int (nI k), .int (nI a)] [] 107 (FR b, N) (rI f) := by
    intro m
    induction m with
    | zero =>
      intro a h1 h2 h3 h4
      exact v84_5 (brK_t (by rw [nI_leI (by omega) (by omega)]; omega) (q (-2) (Or.inl ⟨rfl, fun l hl => h4 l (by omega) hl⟩)))
    | succ m ih =>
      intro a h1 h2 h3 h4
      have e54 : ∀ j, j ≤ k → atV N 54 (nI j) = aZ b S j := by
        intro j hj
        unfold atV
        rw [rg_t.mpr (by rw [ix_n (by omega)]; show j < 1000; omega), ix_n (by omega)]
        exact hT j hj
      refine v84_5 ⟨fun z => ?_, fun z => c15 (by omega) (by decide) (Or.inl rfl) ⟨rfl, c15 (by omega) (by decide) (Or.inl rfl) ⟨rfl, ?_⟩⟩⟩
      · rw [nI_leI (by omega) (by omega)] at z
        exact q (-2) (Or.inl ⟨rfl, fun l hl => h4 l (by omega) hl⟩)
      · rw [nI_leI (by omega) (by omega)] at z
        rw [e54 a (by omega), e54 k (Nat.le_refl _)]
        refine brK_d (fun y => ?_) (fun y => ?_)
        · exact q (nI a) (Or.inr ⟨a, by omega, rfl, y, fun l hl => h4 l hl (by omega)⟩)
        · rw [show (24 : Int32) = nI 24 from rfl, nI_add]
          refine ih (a + 24) (by omega) (by omega) (by omega) (fun l hl hl2 => ?_)
          by_cases e1 : l < a
          · exact h4 l e1 hl2
          · by_cases e2 : l = a
            · subst e2; exact y
            · exact decide_eq_false (fun e => by have := aZ_24 hH e; omega)
  refine v84_0 ?_
  have e : (nI k - nI k / 24 * 24 : Int32) = nI (k % 24) := nI_md (b := 24) (by omega) (by decide)
  rw [e]
  exact l 50 (k % 24) (by omega) (by omega) (by omega) (fun l hl hl2 => decide_eq_false (fun e => by have := aZ_24 hH e; omega))
theorem rd_step {A : Nat → Int32} {w : Int32} {m k : Nat} {v : Int32} (hv : Fst (fun j => decide (A j = A k)) k v) (hk : k < 2 ^ 31) : (v = -2 → rdW A w (m + 1) k = rdW A w m (k + 1)) ∧ (v ≠ -2 → rdW A w (m + 1) k = bif decide (w = 0) then nI k else v) := by
  have fn := Fst_neg hv hk
  have fv : v = fstB (fun j => decide (A j = A k)) k 0 := Fst_u hv (by have := Fst_fstB (fun j => decide (A j = A k)) k 0 (fun l h => absurd h (by omega)); rw [Nat.zero_add] at this; exact this)
  constructor
  · intro h
    show (bif decide (cn (fun j => decide (A j = A k)) k = 0) then _ else _) = _
    rw [decide_eq_true (fn.1.mp h)]; rfl
  · intro h
    show (bif decide (cn (fun j => decide (A j = A k)) k = 0) then _ else _) = _
    rw [decide_eq_false (fun e => h (fn.1.mpr e)), ← fv]; rfl
theorem P_round (hI : INV b S) {w : Int32} : PAIR b S 82 228 [.ref 4, .int w, U, U] [.ref 67, .int w, U, U] := by
  have hL : LawR b S := hI.2.2.2.2.2.2.2.2.2
  refine PAIR_ro hI (rndV b S w) (fun d hd f k => ?_) (fun N hA d hd f k => ?_)
  · unfold rndV at k
    refine v82_0 (c79 (by omega) ⟨rfl, brK_b (fun h => ?_) (fun h => ?_)⟩)
    · rw [h] at k; exact k S (agr_r S)
    · rw [h] at k
      refine c68 (S := S) (by omega) (by decide) rfl (by decide) (agr_r S) (fun N1 hN1 hs1 => ⟨rfl, c83 (by omega) (by decide) rfl hs1 ⟨rfl, ?_⟩⟩)
      have l : ∀ m i (N2 : M2) (u3 : Value), i + m = 999 → agr (fr [6, 17, 54]) S N2 → HW S N2 6 (hst b S rmZ i) → (∀ j, j ≤ i → gI N2 54 j = aZ b S j) → (∀ M', agr (pC b) S M' → f (rdW (aZ b S) w m (i + 1)) (FR b, M')) → WP (d + 1) 107 82 35 [.ref 4, .int w, .int (nI (i + 1)), u3] [] 107 (FR b, N2) (rI f) := by
        intro m
        induction m with
        | zero =>
          intro i N2 u3 hi hN hs hT q
          exact v82_35 (brK_t (by rw [show (999 : Int32) = nI 999 from rfl, nI_ltI (by decide) (by omega)]; omega) (q N2 (frt_pC hN)))
        | succ m ih =>
          intro i N2 u3 hi hN hs hT q
          refine v82_35 (brK_f (by rw [show (999 : Int32) = nI 999 from rfl, nI_ltI (by decide) (by omega)]; omega) (c71 (S := S) (r := rmZ i) (by omega) (by decide) rfl hL (frt_pC hN) hs (fun N3 hN3 hs3 => ⟨rfl, c83 (S := S) (by omega) (by decide) rfl hs3 ⟨rfl, iK_i (by rw [ix_n (by omega)]; omega) ?_⟩⟩)))
          rw [ix_n (by omega)]
          dsimp only
          have hN4 : agr (fr [6, 17, 54]) S (sI N3 54 (i + 1) (allV (goV S (hst b S rmZ i) (rmZ i) (sayV b S (hst b S rmZ i) (tmV S) (rmZ i))))) := agr_sI rfl (agr_t hN (fr_s (by decide) hN3))
          have hT4 : ∀ j, j ≤ i + 1 → gI (sI N3 54 (i + 1) (allV (goV S (hst b S rmZ i) (rmZ i) (sayV b S (hst b S rmZ i) (tmV S) (rmZ i))))) 54 j = aZ b S j := by
            intro j hj
            by_cases e : j = i + 1
            · subst e; rw [gI_s]; rfl
            · rw [gI_oj e, agr_nI hN3 rfl]
              exact hT j (by omega)
          refine c84 (S := S) (by omega) hI (by omega) hT4 (fun v hv => ⟨rfl, ?_⟩)
          have st := rd_step (w := w) (m := m) hv (by omega)
          have fn := Fst_neg hv (by omega)
          refine ⟨fun z => ?_, fun z => ?_⟩
          · have e : v = -2 := by
              by_cases e : v = -2
              · exact e
              · exact absurd (fn.2.mpr (fun y => e (fn.1.mpr y))) (fun y => by rw [i_lt, z_toInt] at z; rw [i_le, z_toInt] at y; omega)
            rw [st.1 e] at q
            rw [nI_1]
            exact ih (i + 1) _ _ (by omega) hN4 (HW_a (fun j => gI_or (by decide)) hs3) hT4 q
          · have e : v ≠ -2 := fun e => z (by rw [e]; decide)
            rw [st.2 e] at q
            have q2 := q _ (frt_pC hN4)
            refine brK_d (fun y => ?_) (fun y => ?_)
            · rw [y] at q2; exact q2
            · rw [y] at q2; exact q2
      refine l 999 0 _ _ (by omega) (agr_sI rfl (fr_s (by decide) hN1)) (HW_a (fun j => gI_or (by decide)) hs1) (fun j hj => ?_) k
      have : j = 0 := by omega
      subst this
      exact gI_s ..
  · unfold rndV at k
    refine v228_0 (c180n 1 (by omega) rfl (by decide) ⟨rfl, brK_b (fun h => ?_) (fun h => ?_)⟩)
    · have h : rg w 2 = false := h
      rw [h] at k; exact k N hA
    · have h : rg w 2 = true := h
      rw [h] at k
      have k : ∀ M', agr (pC b) S M' → f (rdW (aZ b S) w 1000 0) (FR b, M') := k
      have p86 : ∀ {N N' : M2}, agr (frq [86]) N N' → agr (pC b) N N' := fun h => frq_pC (fun a ha j => by rw [List.mem_singleton.mp ha]; rfl) h
      have inner : ∀ n (N2 : M2), n < 1000 → agr (pC b) S N2 → (∀ j, j ≤ n → gI N2 86 j = aZ b S j) → (∀ v, Fst (fun j => decide (aZ b S j = aZ b S n)) n v → v ≠ -2 → f (bif decide (w = 0) then nI n else v) (FR b, N2)) → (∀ u3, Fst (fun j => decide (aZ b S j = aZ b S n)) n (-2) → WP d 107 225 0 [.ref 67, .int 0] [] 107 (FR b, N2) (rV (fun N1 => N1.1 = FR b ∧ (WP (d + 1) 107 228 17 [.ref 67, .int w, .int (nI n + 1), u3] [] 107 (FR b, N1.2) (rI f))))) → ∀ m j, j + m = n → (∀ l, l < j → decide (aZ b S l = aZ b S n) = false) → WP (d + 1) 107 228 36 [.ref 67, .int w, .int (nI n), .int (nI j)] [] 107 (FR b, N2) (rI f) := by
        intro n N2 hn hA2 hT q1 q2 m
        induction m with
        | zero =>
          intro j hj hl
          have : j = n := by omega
          subst this
          exact v228_36 (brK_t (by rw [i_le]; exact Int.le_refl _) (q2 _ (Or.inl ⟨rfl, hl⟩)))
        | succ m ih =>
          intro j hj hl
          refine v228_36 (brK_f (by rw [nI_leI (by omega) (by omega)]; omega) (iK_i (by rw [ix_n (by omega)]; omega) (iK_i (by rw [ix_n (by omega)]; omega) ?_)))
          rw [ix_n (by omega), ix_n (by omega), hT j (by omega), hT n (Nat.le_refl _)]
          refine brK_d (fun z => ?_) (fun z => ?_)
          · have n1 := nI_toInt (n := j) (by omega)
            have k2 := q1 (nI j) (Or.inr ⟨j, by omega, rfl, z, hl⟩) (fun e => by rw [e, show (-2 : Int32).toInt = -2 from rfl] at n1; omega)
            refine brK_d (fun y => ?_) (fun y => ?_)
            · rw [y] at k2; exact k2
            · rw [y] at k2; exact k2
          · rw [nI_1]
            exact ih (j + 1) (by omega) (fun l hl2 => by
              by_cases e : l = j
              · subst e; exact z
              · exact hl l (by omega))
      have outer : ∀ m n (N2 : M2) (u3 : Value), n + m = 1000 → agr (frq [86]) N N2 → MS N2 (hst b S rmZ n) → (∀ j, j < n → gI N2 86 j = aZ b S j) → (∀ M', agr (pC b) S M' → f (rdW (aZ b S) w m n) (FR b, M')) → WP (d + 1) 107 228 17 [.ref 67, .int w, .int (nI n), u3] [] 107 (FR b, N2) (rI f) := by
        intro m
        induction m with
        | zero =>
          intro n N2 u3 hn hN hs hT q
          exact v228_17 (brK_t (by rw [show (999 : Int32) = nI 999 from rfl, nI_ltI (by decide) (by omega)]; omega) (q N2 (agr_t hA (p86 hN))))
        | succ m ih =>
          intro n N2 u3 hn hN hs hT q
          obtain ⟨d', rfl⟩ := ex1 (e := 0) (d := d) (by omega)
          refine v228_17 (brK_f (by rw [show (999 : Int32) = nI 999 from rfl, nI_ltI (by decide) (by omega)]; omega) (v229_0 ⟨rfl, iK_i (by rw [ix_n (by omega)]; omega) ?_⟩))
          dsimp only
          rw [hs.1, hs.2.1, hs.2.2.1, hs.2.2.2, ix_n (by omega)]
          have hN3 : agr (frq [86]) N (sI N2 86 n (aZ b S n)) := agr_sI rfl hN
          have hA3 := agr_t hA (p86 hN3)
          have hT3 : ∀ j, j ≤ n → gI (sI N2 86 n (aZ b S n)) 86 j = aZ b S j := by
            intro j hj
            by_cases e : j = n
            · subst e; exact gI_s ..
            · rw [gI_oj e]; exact hT j (by omega)
          refine inner n _ (by omega) hA3 hT3 (fun v hv hne => ?_) (fun u3 hv => ?_) n 0 (by omega) (fun l hl => absurd hl (by omega))
          · rw [(rd_step (w := w) (m := m) hv (by omega)).2 hne] at q
            exact q _ hA3
          · rw [(rd_step (w := w) (m := m) hv (by omega)).1 rfl] at q
            refine c225 (S := S) (r := rmZ n) (by omega) hI hA3 hs (fun N4 hN4 hs4 g33 g34 => ⟨rfl, ?_⟩)
            rw [nI_1]
            exact ih (n + 1) N4 _ (by omega) (agr_t hN3 (frq_h hN4)) hs4 (fun j hj => by rw [agr_nI hN4 rfl]; exact hT3 j (by omega)) q
      refine c222 (S := S) (by omega) hI hA (fun N1 hN1 hs1 g33 => ⟨rfl, ?_⟩)
      exact outer 1000 0 N1 _ (by omega) (frq_h hN1) hs1 (fun j hj => absurd hj (by omega)) k
end ROUND
