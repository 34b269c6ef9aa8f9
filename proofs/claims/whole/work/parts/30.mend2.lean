section PAIRS
variable {b : Bool} {M : M2}
theorem agr_sI2 {p : Nat → Nat → Bool} {A B : M2} {r k : Nat} {v : Int32} (h : agr p A B) : agr p (sI A r k v) (sI B r k v) := by
  intro a j q
  refine ⟨?_, (h a j q).2⟩
  rw [gI_if, gI_if, (h a j q).1]
theorem INV_ch {P F : M2} (hI : INV b P) (ha : ∀ q : Nat → Nat → Bool, (∀ j, q 35 j = false) → (∀ j, q 36 j = false) → (∀ j, q 37 j = false) → (∀ j, q 38 j = false) → (∀ j, q 39 j = false) → q 67 9 = false → q 67 10 = false → (∀ j, q 74 j = false) → (∀ j, q 75 j = false) → (∀ j, q 76 j = false) → (∀ j, q 77 j = false) → agr q P F) (hC' : ChgR F F) : INV b F := by
  obtain ⟨hS, hH, hV, hSc, hL, hC, hA, hSh, hT, hLw⟩ := id hI
  exact ⟨StatW_a (ha _ (fun _ => rfl) (fun _ => rfl) (fun _ => rfl) (fun _ => rfl) (fun _ => rfl) rfl rfl (fun _ => rfl) (fun _ => rfl) (fun _ => rfl) (fun _ => rfl)) hS, HimR_a (ha _ (fun _ => rfl) (fun _ => rfl) (fun _ => rfl) (fun _ => rfl) (fun _ => rfl) rfl rfl (fun _ => rfl) (fun _ => rfl) (fun _ => rfl) (fun _ => rfl)) hH, VilR_a (ha _ (fun _ => rfl) (fun _ => rfl) (fun _ => rfl) (fun _ => rfl) (fun _ => rfl) rfl rfl (fun _ => rfl) (fun _ => rfl) (fun _ => rfl) (fun _ => rfl)) hV, SchR_a (ha _ (fun _ => rfl) (fun _ => rfl) (fun _ => rfl) (fun _ => rfl) (fun _ => rfl) rfl rfl (fun _ => rfl) (fun _ => rfl) (fun _ => rfl) (fun _ => rfl)) hSc, LedR_a (ha _ (fun _ => rfl) (fun _ => rfl) (fun _ => rfl) (fun _ => rfl) (fun _ => rfl) rfl rfl (fun _ => rfl) (fun _ => rfl) (fun _ => rfl) (fun _ => rfl)) hL, hC', ActR_a (ha _ (fun _ => rfl) (fun _ => rfl) (fun _ => rfl) (fun _ => rfl) (fun _ => rfl) rfl rfl (fun _ => rfl) (fun _ => rfl) (fun _ => rfl) (fun _ => rfl)) hA, ShfR_a (ha _ (fun _ => rfl) (fun _ => rfl) (fun _ => rfl) (fun _ => rfl) (fun _ => rfl) rfl rfl (fun _ => rfl) (fun _ => rfl) (fun _ => rfl) (fun _ => rfl)) hSh, TapR_a (ha _ (fun _ => rfl) (fun _ => rfl) (fun _ => rfl) (fun _ => rfl) (fun _ => rfl) rfl rfl (fun _ => rfl) (fun _ => rfl) (fun _ => rfl) (fun _ => rfl)) hT, LawR_a (ha _ (fun _ => by cases b <;> rfl) (fun _ => by cases b <;> rfl) (fun _ => by cases b <;> rfl) (fun _ => by cases b <;> rfl) (fun _ => by cases b <;> rfl) (by cases b <;> rfl) (by cases b <;> rfl) (fun _ => by cases b <;> rfl) (fun _ => by cases b <;> rfl) (fun _ => by cases b <;> rfl) (fun _ => by cases b <;> rfl)) hLw⟩
theorem pChg_t : ∀ w, w < 11 → ∀ j, pChg (tldC w) j = false ∧ pChg (mtC w) j = false := by
  intro w hw j
  have : w = 0 ∨ w = 1 ∨ w = 2 ∨ w = 3 ∨ w = 4 ∨ w = 5 ∨ w = 6 ∨ w = 7 ∨ w = 8 ∨ w = 9 ∨ w = 10 := by omega
  rcases this with h | h | h | h | h | h | h | h | h | h | h <;> subst h <;> exact ⟨rfl, rfl⟩
theorem mtC_lt : ∀ w, w < 11 → 68 ≤ mtC w ∧ mtC w < 74 := by decide
theorem l33 {d : Nat} {N : M2} {g : Mm → Prop} {n w s v x : Int32} (hx : gI N 35 0 = x) (h : ix x < 40) (k : g (FR b, ntC N x n w s v)) : WP (d + 1) 107 33 43 [.ref 35, .int n, .int w, .int s, .int v] [] 107 (FR b, N) (rV g) := by
  refine v33_43 ?_
  rw [hx]
  exact iK_i h (iK_i h (iK_i h (iK_i h k)))
theorem c33a {d : Nat} {N : M2} {g : Mm → Prop} {n w s v x : Int32} (hd : 2 ≤ d) (hx : gI N 35 0 = x) (h : ix x < 40) (hlt : x < 40) (k : g (FR b, ntC N x n w s v)) : WP d 107 33 0 [.ref 35, .int n, .int w, .int s, .int v] [] 107 (FR b, N) (rV g) := by
  obtain ⟨d, rfl⟩ := ex1 (e := 1) hd
  exact v33_0 (brK_t (by rw [hx]; exact hlt) (l33 hx h k))
theorem c33b {d : Nat} {N : M2} {g : Mm → Prop} {n w s v : Int32} (hd : 2 ≤ d) (hx : gI N 35 0 = 40) (k : g (FR b, ntC (sI (shf (shf (shf (shf N 36 39) 37 39) 38 39) 39 39) 35 0 39) 39 n w s v)) : WP d 107 33 0 [.ref 35, .int n, .int w, .int s, .int v] [] 107 (FR b, N) (rV g) := by
  obtain ⟨d, rfl⟩ := ex1 (e := 1) hd
  exact v33_0 (brK_f (by rw [hx]; decide) (c34 (by omega) (by decide) rfl rfl ⟨rfl, c34 (by omega) (by decide) rfl rfl ⟨rfl, c34 (by omega) (by decide) rfl rfl ⟨rfl, c34 (by omega) (by decide) rfl rfl ⟨rfl, l33 (x := 39) rfl (by decide) k⟩⟩⟩⟩))
theorem l194b {d : Nat} {N : M2} {f : Int32 → Mm → Prop} {n w s v x : Int32} {u : Value} (hd : 1 ≤ d) (hw : ix w < 11) (hn : ix n < lnW (ix w)) (hx : gI N 67 9 = x) (h : ix x < 40) (k : f s (FR b, sI (ntM N x n w s v) (mtC (ix w)) (tldJ (ix w) (ix n)) v)) : WP (d + 1) 107 194 121 [.ref 67, .int w, .int n, .int v, .int s, u] [] 107 (FR b, N) (rI f) := by
  refine v194_121 ?_
  rw [hx]
  exact iK_i h (iK_i h (iK_i h (iK_i h (c186 hd hw hn ⟨rfl, k⟩))))
theorem c194a {d : Nat} {N : M2} {f : Int32 → Mm → Prop} {n w s v x : Int32} (hd : 2 ≤ d) (hw : ix w < 11) (hn : ix n < lnW (ix w)) (hs : gI N (mtC (ix w)) (tldJ (ix w) (ix n)) = s) (hsv : ¬ s = v) (hx : gI N 67 9 = x) (h : ix x < 40) (hne : ¬ x = 40) (k : f s (FR b, sI (ntM (sI N 67 10 0) x n w s v) (mtC (ix w)) (tldJ (ix w) (ix n)) v)) : WP d 107 194 0 [.ref 67, .int w, .int n, .int v, U, U] [] 107 (FR b, N) (rI f) := by
  obtain ⟨d, rfl⟩ := ex1 (e := 1) hd
  refine v194_0 (c195 (by omega) hw hn ⟨rfl, ?_⟩)
  rw [hs]
  refine brK_f hsv (brK_f (fun q => hne (hx.symm.trans q)) (l194b (by omega) hw hn ?_ h k))
  exact (gI_oj (by decide)).trans hx
theorem c194b {d : Nat} {N : M2} {f : Int32 → Mm → Prop} {n w s v : Int32} (hd : 2 ≤ d) (hw : ix w < 11) (hn : ix n < lnW (ix w)) (hs : gI N (mtC (ix w)) (tldJ (ix w) (ix n)) = s) (hsv : ¬ s = v) (hx : gI N 67 9 = 40) (k : f s (FR b, sI (ntM (sI (sh4 (sI N 67 10 0) 39) 67 9 39) 39 n w s v) (mtC (ix w)) (tldJ (ix w) (ix n)) v)) : WP d 107 194 0 [.ref 67, .int w, .int n, .int v, U, U] [] 107 (FR b, N) (rI f) := by
  obtain ⟨d, rfl⟩ := ex1 (e := 1) hd
  refine v194_0 (c195 (by omega) hw hn ⟨rfl, ?_⟩)
  rw [hs]
  refine brK_f hsv (brK_t hx ?_)
  have := l194 (b := b) (d := d) (N := sI N 67 10 0) (Q := rI f) (w := w) (n := n) (v := v) (s := s) 39 0 rfl
  rw [sh4_0] at this
  refine this ?_
  have e : gI (sI N 67 10 0) 67 9 = 40 := (gI_oj (by decide)).trans hx
  rw [e]
  exact l194b (by omega) hw hn (gI_s _ _ _ _) (by decide) k
theorem agr_ntC {q : Nat → Nat → Bool} {A B : M2} {x n w s v : Int32} (h35 : ∀ j, q 35 j = false) (h36 : ∀ j, q 36 j = false) (h37 : ∀ j, q 37 j = false) (h38 : ∀ j, q 38 j = false) (h39 : ∀ j, q 39 j = false) (h : agr q A B) : agr q A (ntC B x n w s v) :=
  agr_sI (h35 _) (agr_sI (h35 _) (agr_sI (h39 _) (agr_sI (h38 _) (agr_sI (h37 _) (agr_sI (h36 _) h)))))
theorem agr_ntM {q : Nat → Nat → Bool} {A B : M2} {x n w s v : Int32} (h9 : q 67 9 = false) (h74 : ∀ j, q 74 j = false) (h75 : ∀ j, q 75 j = false) (h76 : ∀ j, q 76 j = false) (h77 : ∀ j, q 77 j = false) (h : agr q A B) : agr q A (ntM B x n w s v) :=
  agr_sI h9 (agr_sI (h77 _) (agr_sI (h76 _) (agr_sI (h75 _) (agr_sI (h74 _) h))))
theorem P_mend (hI : INV b M) {n w v : Int32} : PAIR b M 24 188 [.ref 4, .int n, .int w, .int v, U] [.ref 67, .int n, .int w, .int v] := by
  obtain ⟨hS, hH, hV, hSc, hL, hC, hA, hSh, hT, hLw⟩ := id hI
  have n1 := nn_of hSc.1 (by decide)
  have n2 := nn_of hV.1 (by decide)
  have m1 : 0 ≤ (gI M 67 7).toInt := by rw [hSc.2.1]; exact n1
  have m2 : 0 ≤ (gI M 67 2).toInt := by rw [hV.2.1]; exact n2
  intro d hd f k
  obtain ⟨d, rfl⟩ := ex1 (e := 199) hd
  refine v24_0 (c25 (by omega) n1 n2 ⟨rfl, brK_b (fun q => ?_) (fun q => ?_)⟩)
  · refine k _ M rfl (fun f2 k2 => v188_0 (c189 (by omega) m1 m2 ⟨rfl, ?_⟩))
    rw [isOne_eq hI, q]
    exact brK_b (fun _ => k2 M hI rfl) (fun q => absurd q (by decide))
  have hq := tld_lt hI q
  have hmt := mtC_lt _ hq.1
  have hne := tldC_ne _ hq.1
  have hpt := pChg_t _ hq.1
  refine c14 (by omega) hS hq.1 ⟨rfl, brK_b (fun hv => ?_) (fun hv => ?_)⟩
  · refine k _ M rfl (fun f2 k2 => v188_0 (c189 (by omega) m1 m2 ⟨rfl, ?_⟩))
    rw [isOne_eq hI, q]
    exact brK_b (fun q => absurd q (by decide)) (fun _ => c192 (by omega) hq.1 ⟨rfl, brK_b (fun _ => k2 M hI rfl) (fun q => ff hv q)⟩)
  have hvG := rg_tt hv
  obtain ⟨t, ht⟩ : ∃ t, t = tldC (ix w) := ⟨_, rfl⟩
  obtain ⟨mt, hm⟩ : ∃ t, t = mtC (ix w) := ⟨_, rfl⟩
  obtain ⟨j, hj⟩ : ∃ t, t = tldJ (ix w) (ix n) := ⟨_, rfl⟩
  have hte := told_eq hI hq.1 hq.2
  have hTell := INV_tell hI hq.1 hq.2 hvG
  refine c28 (by omega) hq.1 hq.2 ⟨rfl, ⟨fun h => ?_, fun h => c31 (by omega) hq.1 hq.2 ⟨rfl, ?_⟩⟩⟩
  · refine k _ M rfl (fun f2 k2 => v188_0 (c189 (by omega) m1 m2 ⟨rfl, ?_⟩))
    rw [isOne_eq hI, q]
    refine brK_b (fun q => absurd q (by decide)) (fun _ => c192 (by omega) hq.1 ⟨rfl, brK_b (fun q => ff q hv) (fun _ => ?_)⟩)
    obtain ⟨d, rfl⟩ := ex1 (e := 198) (d := d) (by omega)
    refine v194_0 (c195 (by omega) hq.1 hq.2 ⟨rfl, ?_⟩)
    rw [hte]
    exact brK_t h ⟨rfl, k2 M hI rfl⟩
  rw [← ht, ← hj] at h
  dsimp only
  rw [← ht, ← hj]
  rw [← ht, ← hm, ← hj] at hTell
  rw [← ht, ← hm, ← hj] at hte
  rw [← hm] at hmt
  rw [← ht, ← hm] at hne hpt
  have hsG : ix (gI M t j) < GR (ix w) := by
    have hw := hq.1
    have : ix w < 7 ∨ ix w = 7 ∨ ix w = 8 ∨ ix w = 9 ∨ ix w = 10 := by omega
    rw [ht, hj]
    rcases this with h | h | h | h | h
    · have hb : Nat.blt (ix w) 7 = true := Nat.ble_eq_true_of_le h
      unfold tldC tldJ
      rw [hb]
      exact hH.1 _ h
    · have hn := hq.2; rw [h] at hn ⊢; exact (hV.2.2 _ hn).1.1
    · have hn := hq.2; rw [h] at hn ⊢; exact (hV.2.2 _ hn).1.2.1
    · have hn := hq.2; rw [h] at hn ⊢; exact (hV.2.2 _ hn).1.2.2.1
    · have hn := hq.2; rw [h] at hn ⊢; exact (hSc.2.2 _ hn).1
  have aT : agr pChg M (sI M t j v) := agr_sI (hpt j).1 (agr_r M)
  have hC1 := ChgR_a aT hC
  have x35 : gI (sI M t j v) 35 0 = gI M 35 0 := gI_or (fun q => hne.2.1 q.symm)
  have hR1 : RW (sI M t j v) := hC1.2.2.2.2
  obtain ⟨s, hs⟩ : ∃ s, s = gI M t j := ⟨_, rfl⟩
  rw [← hs] at h hsG hte ⊢
  obtain ⟨x, hx⟩ : ∃ x, x = gI M 35 0 := ⟨_, rfl⟩
  have hx40 : ix x ≤ 40 := by rw [hx]; have := hC.1; have := hC.2.1; omega
  have e9 : gI M 67 9 = x := by rw [hx]; exact hC.2.2.1
  have hl := lt_n (v := x) (c := 40) (n := 40) rfl (by decide) hx40
  have hin : ∀ (N : M2) (d : Nat), 190 ≤ d → gI N 67 7 = gI M 67 7 → gI N 67 2 = gI M 67 2 → ∀ f2 : Int32 → Mm → Prop, WP d 107 194 0 [.ref 67, .int w, .int n, .int v, U, U] [] 107 (FR b, N) (rI (fun a N' => N'.1 = FR b ∧ f2 a (FR b, N'.2))) → WP (d + 1) 107 188 0 [.ref 67, .int n, .int w, .int v] [] 107 (FR b, N) (rI f2) := by
    intro N d hd g7 g2 f2 k2
    refine v188_0 (c189 (by omega) (by rw [g7]; exact m1) (by rw [g2]; exact m2) ⟨rfl, ?_⟩)
    have e : isOneV N n w = true := by
      have e1 := (isOne_eq hI (n := n) (w := w)).trans q
      unfold isOneV at e1 ⊢
      rw [g7, g2]
      exact e1
    rw [e]
    refine brK_b (fun q => absurd q (by decide)) (fun _ => c192 (by omega) hq.1 ⟨rfl, brK_b (fun q => ff q hv) (fun _ => ?_)⟩)
    exact k2
  have wn : ∀ r, tldC (ix w) ≠ r → ∀ i, gI (sI M t j v) r i = gI M r i := fun r hr i => gI_or (fun q => hr (ht.symm.trans q.symm))
  by_cases h40 : x = 40
  · refine c33b (by omega) (x35.trans (hx.symm.trans h40)) ⟨rfl, ?_⟩
    obtain ⟨N, hN⟩ : ∃ N, N = ntC (sI (shf (shf (shf (shf (sI M t j v) 36 39) 37 39) 38 39) 39 39) 35 0 39) 39 n w s v := ⟨_, rfl⟩
    dsimp only
    rw [← hN]
    have hf : ∀ r i, 67 ≤ r → gI N r i = gI M r i := by
      intro r i hr
      have a : agr (fun r _ => Nat.ble 67 r) (sI M t j v) N := by
        rw [hN]
        exact agr_ntC (fun _ => rfl) (fun _ => rfl) (fun _ => rfl) (fun _ => rfl) (fun _ => rfl) (agr_sI rfl (agr_shf (fun _ => rfl) (agr_shf (fun _ => rfl) (agr_shf (fun _ => rfl) (agr_shf (fun _ => rfl) (agr_r _))))))
      rw [(a r i (Nat.ble_eq_true_of_le hr)).1]
      exact gI_or (by omega)
    have h3 : gI N 3 = gI M 3 := by
      funext i
      have a : agr (fun r _ => Nat.beq r 3) (sI M t j v) N := by
        rw [hN]
        exact agr_ntC (fun _ => rfl) (fun _ => rfl) (fun _ => rfl) (fun _ => rfl) (fun _ => rfl) (agr_sI rfl (agr_shf (fun _ => rfl) (agr_shf (fun _ => rfl) (agr_shf (fun _ => rfl) (agr_shf (fun _ => rfl) (agr_r _))))))
      rw [(a 3 i rfl).1]
      exact gI_or (fun q => hne.2.2.2.2.2.1 q.symm)
    refine k s N h3 (fun f2 k2 => hin N d (by omega) (hf _ _ (by decide)) (hf _ _ (by decide)) f2 (c194b (by omega) hq.1 hq.2 ?_ h ((hf _ _ (by decide)).trans (e9.trans h40)) ⟨rfl, k2 _ ?_ ?_⟩))
    · rw [← hm, ← hj, hf _ _ (by omega)]; exact hte
    · rw [← hm, ← hj]
      refine INV_ch hTell ?_ (ChgR_a (agr_sI (hpt j).2 (agr_r _)) ?_)
      · intro q h35 h36 h37 h38 h39 h9 h10 h74 h75 h76 h77
        rw [hN]
        exact agr_sI2 (agr_ntM h9 h74 h75 h76 h77 (agr_sI h9 (agr_sh4 h74 h75 h76 h77 (agr_sI h10 (agr_ntC h35 h36 h37 h38 h39 (agr_sI (h35 _) (agr_shf h39 (agr_shf h38 (agr_shf h37 (agr_shf h36 (agr_r _)))))))))))
      · rw [hN]
        exact CHG_B hR1 hq.1 hq.2 hsG hvG
    · rw [← hm]
      rw [gI_f3 hne.2.2.2.2.2.2]
      funext i
      have a : agr (fun r _ => Nat.beq r 3) N (ntM (sI (sh4 (sI N 67 10 0) 39) 67 9 39) 39 n w s v) := agr_ntM rfl (fun _ => rfl) (fun _ => rfl) (fun _ => rfl) (fun _ => rfl) (agr_sI rfl (agr_sh4 (fun _ => rfl) (fun _ => rfl) (fun _ => rfl) (fun _ => rfl) (agr_sI rfl (agr_r _))))
      rw [(a 3 i rfl).1, h3]
  · have hxl : ix x < 40 := by
      have : ¬ ix x = 40 := fun q => h40 (hl.2.mpr q)
      omega
    refine c33a (by omega) (x35.trans hx.symm) hxl (hl.1.mpr hxl) ⟨rfl, ?_⟩
    obtain ⟨N, hN⟩ : ∃ N, N = ntC (sI M t j v) x n w s v := ⟨_, rfl⟩
    dsimp only
    rw [← hN]
    have hf : ∀ r i, 67 ≤ r → gI N r i = gI M r i := by
      intro r i hr
      have a : agr (fun r _ => Nat.ble 67 r) (sI M t j v) N := by
        rw [hN]
        exact agr_ntC (fun _ => rfl) (fun _ => rfl) (fun _ => rfl) (fun _ => rfl) (fun _ => rfl) (agr_r _)
      rw [(a r i (Nat.ble_eq_true_of_le hr)).1]
      exact gI_or (by omega)
    have h3 : gI N 3 = gI M 3 := by
      funext i
      have a : agr (fun r _ => Nat.beq r 3) (sI M t j v) N := by
        rw [hN]
        exact agr_ntC (fun _ => rfl) (fun _ => rfl) (fun _ => rfl) (fun _ => rfl) (fun _ => rfl) (agr_r _)
      rw [(a 3 i rfl).1]
      exact gI_or (fun q => hne.2.2.2.2.2.1 q.symm)
    refine k s N h3 (fun f2 k2 => hin N d (by omega) (hf _ _ (by decide)) (hf _ _ (by decide)) f2 (c194a (x := x) (by omega) hq.1 hq.2 ?_ h ((hf _ _ (by decide)).trans e9) hxl h40 ⟨rfl, k2 _ ?_ ?_⟩))
    · rw [← hm, ← hj, hf _ _ (by omega)]; exact hte
    · rw [← hm, ← hj]
      refine INV_ch hTell ?_ (ChgR_a (agr_sI (hpt j).2 (agr_r _)) ?_)
      · intro q h35 h36 h37 h38 h39 h9 h10 h74 h75 h76 h77
        rw [hN]
        exact agr_sI2 (agr_ntM h9 h74 h75 h76 h77 (agr_sI h10 (agr_ntC h35 h36 h37 h38 h39 (agr_r _))))
      · rw [hN]
        exact CHG_A hxl hR1 hq.1 hq.2 hsG hvG
    · rw [← hm]
      rw [gI_f3 hne.2.2.2.2.2.2]
      funext i
      have a : agr (fun r _ => Nat.beq r 3) N (ntM (sI N 67 10 0) x n w s v) := agr_ntM rfl (fun _ => rfl) (fun _ => rfl) (fun _ => rfl) (fun _ => rfl) (agr_sI rfl (agr_r _))
      rw [(a 3 i rfl).1, h3]
end PAIRS
