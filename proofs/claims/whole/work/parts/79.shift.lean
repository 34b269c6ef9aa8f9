/-! shift -/
theorem agr_cL {p : Nat → Nat → Bool} {M M' : M2} {s sp t dp n : Nat} (hp : ∀ j, p t j = false) (h : agr p M M') : agr p M (cL M' s sp t dp n) := by
  intro a j q
  have e : ¬ (a = t ∧ dp ≤ j ∧ j < dp + n) := by
    intro e
    rw [e.1, hp] at q
    exact absurd q (by decide)
  refine ⟨(h a j q).1, ?_⟩
  show (if a = t ∧ dp ≤ j ∧ j < dp + n then _ else _) = _
  rw [if_neg e]
  exact (h a j q).2
theorem gL_cL (M : M2) (s sp t dp n a j : Nat) : gL (cL M s sp t dp n) a j = if a = t ∧ dp ≤ j ∧ j < dp + n then gL M s (sp + (j - dp)) else gL M a j := rfl
theorem cpK_L {q0 q1 : Nat} {M : Mm} {f : Mm → Prop} {sp dp cn : Int32} (h0 : q0 < 107) (h1 : q1 < 107) (k0 : kd q0 = 23) (k1 : kd q1 = 23) (h : ix sp + ix cn ≤ ln q0 ∧ ix dp + ix cn ≤ ln q1 ∧ f (M.1, cL M.2 q0 (ix sp) q1 (ix dp) (ix cn))) : cpK 107 q0 q1 M f sp dp cn := by
  unfold cpK
  rw [blt_i.mpr h0, blt_i.mpr h1, k0, k1]
  exact h
/-- what a shelf holds, told by the reference -/
theorem sh3 {M : M2} {i : Nat} (hA : ix (gI M 40 0) ≤ 50) (h : ShfR1 M M i) : (gI M (shC i) 0 = 0 ↔ gI M 103 i = -1) ∧ (gI M (shC i) 0 = 1 ↔ 0 ≤ gI M 103 i) ∧ (gI M (shC i) 0 = 0 ∨ gI M (shC i) 0 = 1 ∨ gI M (shC i) 0 = 2) := by
  rcases h with q | q | q
  · rw [q.1, q.2]; decide
  · have t := ix_t (gI M (shC i) 1)
    have m1 : (-1 : Int32).toInt = -1 := rfl
    rw [q.1, q.2.1]
    refine ⟨⟨fun e => absurd e (by decide), fun e => ?_⟩, ⟨fun _ => ?_, fun _ => rfl⟩, Or.inr (Or.inl rfl)⟩
    · rw [i_eq, m1] at e; omega
    · rw [i_le, z_toInt]; omega
  · have s := srt q.2.2.1
    rw [q.1, q.2.1]
    refine ⟨⟨fun e => absurd e (by decide), fun e => absurd e s.1⟩, ⟨fun e => absurd e (by decide), fun e => ?_⟩, Or.inr (Or.inr rfl)⟩
    have := s.2.1
    rw [i_lt] at this
    rw [i_le] at e
    omega
section SHIFT
variable {d : Nat} {b : Bool} {M : M2}
theorem c174 {f : Int32 → Mm → Prop} {i n : Int32} {s : Nat} (hd : 1 ≤ d) (hs : s < 6) (hz : ix (gI M (shC s) 3) ≤ 60) (hn : 0 ≤ n.toInt) (k : f (bI (Nat.ble (ix i + ix n) (ix (gI M (shC s) 3)))) (FR b, M)) : WP d 107 174 0 [.ref (shC s), .int i, .int n] [] 107 (FR b, M) (rI f) := by
  obtain ⟨d, rfl⟩ := ex1 hd
  have hk := sh_kd s hs
  have i1 := ix_t i
  have n1 := ix_t n
  have z1 := ix_t (gI M (shC s) 3)
  refine v174_0 ⟨fun h => ?_, fun h => oK_i hk.2.1 hk.1 ⟨fun h2 => ?_, fun h2 => oK_i hk.2.1 hk.1 ⟨fun h3 => ?_, fun h3 => ?_⟩⟩⟩
  · rw [i_lt, z_toInt] at h
    rw [ble_f (by omega)] at k; exact k
  · rw [i_lt, z_toInt] at h
    rw [i_lt] at h2
    rw [ble_f (by omega)] at k; exact k
  all_goals
    rw [i_lt, z_toInt] at h
    rw [i_lt] at h2
    rw [i_lt, sub_toInt (by omega) (by omega)] at h3
  · rw [ble_f (by omega)] at k; exact k
  · rw [ble_t (by omega)] at k; exact k
theorem l301a {f : Int32 → Mm → Prop} {x1 x2 x3 x4 : Int32} {n : Nat} {N0 : M2} (h1 : ix x1 < 6) (h2 : ix x2 + n ≤ 60) (k : ∀ N, agr (fr [106]) N0 N → (∀ k, k < n → gL N 106 k = gL N0 105 (60 * ix x1 + ix x2 + k)) → WP (d + 1) 107 301 150 [.ref 67, .int x1, .int x2, .int x3, .int x4, .int (nI n), .int 0] [] 107 (FR b, N) (rI f)) : ∀ m t N, t + m = n → agr (fr [106]) N0 N → (∀ k, k < t → gL N 106 k = gL N0 105 (60 * ix x1 + ix x2 + k)) → WP (d + 1) 107 301 113 [.ref 67, .int x1, .int x2, .int x3, .int x4, .int (nI n), .int (nI t)] [] 107 (FR b, N) (rI f) := by
  intro m
  induction m with
  | zero =>
    intro t N ht hN hc
    have : t = n := by omega
    subst this
    exact v301_113 (brK_t (by rw [i_le]; exact Int.le_refl _) (k N hN hc))
  | succ m ih =>
    intro t N ht hN hc
    have et : ix (nI t) = t := ix_n (by omega)
    have ei : ix (60 * x1 + x2 + nI t) = 60 * ix x1 + ix x2 + t := by
      rw [show (60 : Int32) = nI 60 from rfl, ← n_ix x1, nI_mul, ← n_ix x2, nI_add, nI_add, n_ix, n_ix, ix_n (by omega)]
    refine v301_113 (brK_f (by rw [nI_leI (by omega) (by omega)]; omega) (iK_i (by omega) (iK_i (by omega) ?_)))
    rw [ei, et, nI_1]
    refine ih (t + 1) _ (by omega) (agr_sL rfl hN) (fun k hk => ?_)
    by_cases e : k = t
    · subst e
      rw [gL_s, agr_nL hN rfl]
    · rw [gL_o (fun q => e q.2)]
      exact hc k (by omega)
theorem l301b {f : Int32 → Mm → Prop} {x1 x2 x3 x4 : Int32} {n : Nat} {N0 : M2} (h3 : ix x3 < 6) (h4 : ix x4 + n ≤ 60) (k : ∀ N, agr (fr [105]) N0 N → (∀ p, gL N 105 p = if 60 * ix x3 + ix x4 ≤ p ∧ p < 60 * ix x3 + ix x4 + n then gL N0 106 (p - (60 * ix x3 + ix x4)) else gL N0 105 p) → f (nI n) (FR b, N)) : ∀ m t N, t + m = n → agr (fr [105]) N0 N → (∀ p, gL N 105 p = if 60 * ix x3 + ix x4 ≤ p ∧ p < 60 * ix x3 + ix x4 + t then gL N0 106 (p - (60 * ix x3 + ix x4)) else gL N0 105 p) → WP (d + 1) 107 301 150 [.ref 67, .int x1, .int x2, .int x3, .int x4, .int (nI n), .int (nI t)] [] 107 (FR b, N) (rI f) := by
  intro m
  induction m with
  | zero =>
    intro t N ht hN hc
    have : t = n := by omega
    subst this
    exact v301_150 (brK_t (by rw [i_le]; exact Int.le_refl _) (k N hN hc))
  | succ m ih =>
    intro t N ht hN hc
    have et : ix (nI t) = t := ix_n (by omega)
    have ei : ix (60 * x3 + x4 + nI t) = 60 * ix x3 + ix x4 + t := by
      rw [show (60 : Int32) = nI 60 from rfl, ← n_ix x3, nI_mul, ← n_ix x4, nI_add, nI_add, n_ix, n_ix, ix_n (by omega)]
    refine v301_150 (brK_f (by rw [nI_leI (by omega) (by omega)]; omega) (iK_i (by omega) (iK_i (by omega) ?_)))
    rw [ei, et, nI_1]
    refine ih (t + 1) _ (by omega) (agr_sL rfl hN) (fun p => ?_)
    by_cases e : p = 60 * ix x3 + ix x4 + t
    · rw [e, gL_s, if_pos ⟨by omega, by omega⟩, Nat.add_sub_cancel_left]
      exact agr_nL hN rfl
    · rw [gL_o (fun q => e q.2), hc p]
      by_cases q : 60 * ix x3 + ix x4 ≤ p ∧ p < 60 * ix x3 + ix x4 + t
      · rw [if_pos q, if_pos ⟨q.1, by omega⟩]
      · rw [if_neg q, if_neg (fun q2 => q ⟨q2.1, by omega⟩)]
theorem INV_shift (hI : INV b M) {s o i j n : Nat} (hs : s < 6) (ho : o < 6) (hi : i + n ≤ 60) (hj : j + n ≤ 60) (hrow : ∀ k, k < 60 → gL M 105 (60 * s + k) = gL M (shC s + 1) k) {N N' : M2} (hN : agr (fr [106]) (cL M (shC s + 1) i (shC o + 1) j n) N) (hc : ∀ k, k < n → gL N 106 k = gL (cL M (shC s + 1) i (shC o + 1) j n) 105 (60 * s + i + k)) (hN' : agr (fr [105]) N N') (hc' : ∀ p, gL N' 105 p = if 60 * o + j ≤ p ∧ p < 60 * o + j + n then gL N 106 (p - (60 * o + j)) else gL N 105 p) : INV b N' := by
  have hSh := hI.2.2.2.2.2.2.2.1
  have A : ∀ q : Nat → Nat → Bool, (∀ j, q (shC o + 1) j = false) → (∀ j, q 105 j = false) → (∀ j, q 106 j = false) → agr q M N' := fun q h1 h5 h6 => agr_t (agr_cL h1 (agr_r M)) (agr_t (fr_m (fun a ha j => by rw [List.mem_singleton.mp ha]; exact h6 j) hN) (fr_m (fun a ha j => by rw [List.mem_singleton.mp ha]; exact h5 j) hN'))
  have hinj : ∀ i, i < 6 → ∀ a, a < 6 → (shC i + 1 = shC a + 1 ↔ i = a) := by decide
  have n1 : ∀ i, i < 6 → nin [106] (shC i + 1) = true ∧ nin [105] (shC i + 1) = true ∧ 105 ≠ shC i + 1 := by decide
  have nI' : ∀ a, a < 6 → ∀ o, o < 6 → nin [shC o + 1, 105, 106] (shC a) = true ∧ nin [shC o + 1, 105, 106] 40 = true ∧ nin [shC o + 1, 105, 106] 103 = true ∧ nin [shC o + 1, 105, 106] 104 = true := by decide
  have nn : nin [shC o + 1, 105, 106] (shC o + 1) = false ∧ nin [shC o + 1, 105, 106] 105 = false ∧ nin [shC o + 1, 105, 106] 106 = false := (show ∀ o, o < 6 → nin [shC o + 1, 105, 106] (shC o + 1) = false ∧ nin [shC o + 1, 105, 106] 105 = false ∧ nin [shC o + 1, 105, 106] 106 = false by decide) o ho
  have F : agr (fr [shC o + 1, 105, 106]) M N' := A _ (fun _ => nn.1) (fun _ => nn.2.1) (fun _ => nn.2.2)
  refine INV_shf hI (fun q h0 h1 h3 h4 h5 h6 => A q (h1 o ho) h5 h6) (fun a ha => ?_)
  have ni := nI' a ha o ho
  have e : ∀ j, gI N' (shC a) j = gI M (shC a) j := fun j => (F (shC a) j ni.1).1
  have e3 : gI N' 103 a = gI M 103 a := (F 103 a ni.2.2.1).1
  have e4 : gI N' 104 a = gI M 104 a := (F 104 a ni.2.2.2).1
  have e40 : gI N' 40 0 = gI M 40 0 := (F 40 0 ni.2.1).1
  have eK : ∀ k, gL N' (shC a + 1) k = if a = o ∧ j ≤ k ∧ k < j + n then gL M (shC s + 1) (i + (k - j)) else gL M (shC a + 1) k := by
    intro k
    rw [agr_nL hN' (n1 a ha).2.1, agr_nL hN (n1 a ha).1, gL_cL]
    have := hinj a ha o ho
    simp only [this]
  have c105 : ∀ p, gL (cL M (shC s + 1) i (shC o + 1) j n) 105 p = gL M 105 p := by
    intro p
    rw [gL_cL, if_neg (fun q => (n1 o ho).2.2 q.1)]
  have eL : ∀ k, k < 60 → gL N' 105 (60 * a + k) = if a = o ∧ j ≤ k ∧ k < j + n then gL M (shC s + 1) (i + (k - j)) else gL M 105 (60 * a + k) := by
    intro k hk
    rw [hc']
    by_cases q : a = o ∧ j ≤ k ∧ k < j + n
    · obtain ⟨q1, q2, q3⟩ := q
      subst q1
      rw [if_pos ⟨by omega, by omega⟩, if_pos ⟨rfl, q2, q3⟩, hc _ (by omega), c105, show 60 * s + i + (60 * a + k - (60 * a + j)) = 60 * s + (i + (k - j)) by omega]
      exact hrow _ (by omega)
    · rw [if_neg q, if_neg (fun z => q ⟨by omega, by omega, by omega⟩), agr_nL hN rfl, c105]
  unfold ShfR1
  rw [e, e, e, e, e3, e4, e40]
  rcases hSh a ha with q | q | q
  · exact Or.inl q
  · exact Or.inr (Or.inl q)
  · refine Or.inr (Or.inr ⟨q.1, q.2.1, q.2.2.1, q.2.2.2.1, q.2.2.2.2.1, fun k hk => ?_⟩)
    rw [eL k hk, eK k, q.2.2.2.2.2 k hk]
theorem P_shift (hI : INV b M) {x1 x2 x3 x4 x5 : Int32} : PAIR b M 173 301 [.ref 4, .int x1, .int x2, .int x3, .int x4, .int x5, U, U] [.ref 67, .int x1, .int x2, .int x3, .int x4, .int x5, U] := by
  obtain ⟨hS, hH, hV, hSc, hL, hC, hA, hSh, hT, hLw⟩ := id hI
  intro d hd f k
  obtain ⟨d, rfl⟩ := ex1 (e := 199) hd
  refine v173_0 (c18 (by omega) (fun h => ⟨rfl, ?_⟩) (fun h => ⟨rfl, c18 (by omega) (fun h2 => ⟨rfl, ?_⟩) (fun h2 => ⟨rfl, ?_⟩)⟩))
  · have go : f (-1) (FR b, M) := k _ M rfl (fun f2 k2 => v301_0 (c183 (by omega) ⟨rfl, brK_b (fun _ => k2 M hI rfl) (fun q => ff h q)⟩))
    exact c18 (by omega) (fun _ => ⟨rfl, go⟩) (fun _ => ⟨rfl, go⟩)
  · exact k _ M rfl (fun f2 k2 => v301_0 (c183 (by omega) ⟨rfl, brK_b (fun q => ff q h) (fun _ => c183 (by omega) ⟨rfl, brK_b (fun _ => k2 M hI rfl) (fun q => ff h2 q)⟩)⟩))
  have hs := rg_tt h
  have ho := rg_tt h2
  have hk := sh_kd _ hs
  have hk2 := sh_kd _ ho
  have s1 := sh3 hA.1 (hSh _ hs)
  have s2 := sh3 hA.1 (hSh _ ho)
  have go : ∀ (N : M2) (f2 : Int32 → Mm → Prop), gI N 103 = gI M 103 → gI N 104 = gI M 104 → (brK (gI M 103 (ix x1) = -1) (f2 (-11) (FR b, N)) (brK (gI M 103 (ix x3) = -1) (f2 (-11) (FR b, N)) (brK (0 ≤ gI M 103 (ix x1)) (f2 (-12) (FR b, N)) (brK (gI M 103 (ix x1) = gI M 103 (ix x3)) (brK (x5 < 0) (f2 (-13) (FR b, N)) (brK (x2 < 0) (f2 (-13) (FR b, N)) (brK (x4 < 0) (f2 (-13) (FR b, N)) (brK (gI M 104 (ix x1) - x5 < x2) (f2 (-13) (FR b, N)) (brK (x4 ≤ gI M 104 (ix x3) - x5) (WP (d + 1) 107 301 113 [.ref 67, .int x1, .int x2, .int x3, .int x4, .int x5, .int 0] [] 107 (FR b, N) (rI f2)) (f2 (-13) (FR b, N))))))) (f2 (-12) (FR b, N)))))) → WP (d + 1) 107 301 0 [.ref 67, .int x1, .int x2, .int x3, .int x4, .int x5, U] [] 107 (FR b, N) (rI f2) := by
    intro N f2 e3 e4 q
    rw [← e3, ← e4] at q
    exact v301_0 (c183 (by omega) ⟨rfl, brK_b (fun q => ff q h) (fun _ => c183 (by omega) ⟨rfl, brK_b (fun q => ff q h2) (fun _ => iK_i hs ⟨q.1, fun z => iK_i ho ⟨(q.2 z).1, fun z2 => iK_i hs ⟨((q.2 z).2 z2).1, fun z3 => iK_i hs (iK_i ho ⟨fun z4 => ⟨((((q.2 z).2 z2).2 z3).1 z4).1, fun z5 => ⟨(((((q.2 z).2 z2).2 z3).1 z4).2 z5).1, fun z6 => ⟨((((((q.2 z).2 z2).2 z3).1 z4).2 z5).2 z6).1, fun z7 => iK_i hs ⟨(((((((q.2 z).2 z2).2 z3).1 z4).2 z5).2 z6).2 z7).1, fun z8 => iK_i ho ((((((((q.2 z).2 z2).2 z3).1 z4).2 z5).2 z6).2 z7).2 z8)⟩⟩⟩⟩, (((q.2 z).2 z2).2 z3).2⟩)⟩⟩⟩)⟩)⟩)
  refine oK_i hk.2.1 hk.1 ⟨fun g1 => ?_, fun g1 => oK_i hk2.2.1 hk2.1 ⟨fun g2 => ?_, fun g2 => oK_i hk.2.1 hk.1 ⟨fun g3 => oK_i hk2.2.1 hk2.1 ⟨fun g4 => oK_i hk.2.1 hk.1 (oK_i hk2.2.1 hk2.1 ⟨fun g5 => ?_, fun g5 => ?_⟩), fun g4 => ?_⟩, fun g3 => ?_⟩⟩⟩
  · exact k _ M rfl (fun f2 k2 => go M f2 rfl rfl (brK_t (s1.1.mp g1) (k2 M hI rfl)))
  · exact k _ M rfl (fun f2 k2 => go M f2 rfl rfl (brK_f (fun e => g1 (s1.1.mpr e)) (brK_t (s2.1.mp g2) (k2 M hI rfl))))
  · have g3 : gI M (shC (ix x1)) 0 = 2 := g3
    have g4 : gI M (shC (ix x3)) 0 = 2 := g4
    have g5 : gI M (shC (ix x1)) 2 = gI M (shC (ix x3)) 2 := g5
    have row : ∀ i, i < 6 → gI M (shC i) 0 = 2 → gI M 103 i = -2 - gI M (shC i) 2 ∧ ix (gI M (shC i) 2) < 5 ∧ ix (gI M (shC i) 3) ≤ 60 ∧ gI M 104 i = gI M (shC i) 3 ∧ ∀ k, k < 60 → gL M 105 (60 * i + k) = gL M (shC i + 1) k := by
      intro i hi e
      rcases hSh i hi with q | q | q
      · rw [e] at q; exact absurd q.1 (by decide)
      · rw [e] at q; exact absurd q.1 (by decide)
      · exact q.2
    have r1 := row _ hs g3
    have r2 := row _ ho g4
    have m1 : ¬ gI M 103 (ix x1) = -1 := fun e => g1 (s1.1.mpr e)
    have m2 : ¬ gI M 103 (ix x3) = -1 := fun e => g2 (s2.1.mpr e)
    have m3 : ¬ 0 ≤ gI M 103 (ix x1) := fun e => by have := s1.2.1.mpr e; rw [g3] at this; exact absurd this (by decide)
    have m4 : gI M 103 (ix x1) = gI M 103 (ix x3) := by rw [r1.1, r2.1, g5]
    have z1 := ix_t (gI M (shC (ix x1)) 3)
    have z2 := ix_t (gI M (shC (ix x3)) 3)
    have t2 := ix_t x2
    have t4 := ix_t x4
    have t5 := ix_t x5
    have go2 : ∀ (N : M2) (f2 : Int32 → Mm → Prop), gI N 103 = gI M 103 → gI N 104 = gI M 104 → (brK (x5 < 0) (f2 (-13) (FR b, N)) (brK (x2 < 0) (f2 (-13) (FR b, N)) (brK (x4 < 0) (f2 (-13) (FR b, N)) (brK (gI M 104 (ix x1) - x5 < x2) (f2 (-13) (FR b, N)) (brK (x4 ≤ gI M 104 (ix x3) - x5) (WP (d + 1) 107 301 113 [.ref 67, .int x1, .int x2, .int x3, .int x4, .int x5, .int 0] [] 107 (FR b, N) (rI f2)) (f2 (-13) (FR b, N))))))) → WP (d + 1) 107 301 0 [.ref 67, .int x1, .int x2, .int x3, .int x4, .int x5, U] [] 107 (FR b, N) (rI f2) := fun N f2 e3 e4 q => go N f2 e3 e4 (brK_f m1 (brK_f m2 (brK_f m3 (brK_t m4 q))))
    have bad : x5.toInt < 0 ∨ (0 ≤ x5.toInt ∧ (¬ ix x2 + ix x5 ≤ ix (gI M (shC (ix x1)) 3) ∨ ¬ ix x4 + ix x5 ≤ ix (gI M (shC (ix x3)) 3))) → f (-13) (FR b, M) := by
      intro hb
      refine k _ M rfl (fun f2 k2 => go2 M f2 rfl rfl ?_)
      have K := k2 M hI rfl
      refine ⟨fun _ => K, fun q5 => ⟨fun _ => K, fun q2 => ⟨fun _ => K, fun q4 => ⟨fun _ => K, fun q6 => ⟨fun q7 => ?_, fun _ => K⟩⟩⟩⟩⟩
      exfalso
      rw [i_lt, z_toInt] at q5 q2 q4
      rw [r1.2.2.2.1, i_lt, sub_toInt (by omega) (by omega)] at q6
      rw [r2.2.2.2.1, i_le, sub_toInt (by omega) (by omega)] at q7
      omega
    refine ⟨fun g6 => ?_, fun g6 => ?_⟩
    · rw [i_lt, z_toInt] at g6
      exact bad (Or.inl g6)
    · rw [i_lt, z_toInt] at g6
      refine oK_i hk.2.1 hk.1 (c174 (by omega) hs r1.2.2.1 (by omega) ⟨rfl, brK_b (fun g7 => ?_) (fun g7 => oK_i hk2.2.1 hk2.1 (c174 (by omega) ho r2.2.2.1 (by omega) ⟨rfl, brK_b (fun g8 => ?_) (fun g8 => oK_i hk.2.1 hk.1 (rK_i (FRs4 b _ hs) (oK_i hk2.2.1 hk2.1 (rK_i (FRs4 b _ ho) (cpK_L hk.2.2.2.1 hk2.2.2.2.1 hk.2.2.1 hk2.2.2.1 ?_)))))⟩))⟩)
      · have g7 : Nat.ble (ix x2 + ix x5) (ix (gI M (shC (ix x1)) 3)) = false := g7
        exact bad (Or.inr ⟨by omega, Or.inl (fun e => by rw [ble_t e] at g7; exact absurd g7 (by decide))⟩)
      · have g8 : Nat.ble (ix x4 + ix x5) (ix (gI M (shC (ix x3)) 3)) = false := g8
        exact bad (Or.inr ⟨by omega, Or.inr (fun e => by rw [ble_t e] at g8; exact absurd g8 (by decide))⟩)
      · have g7 := Nat.le_of_ble_eq_true (show Nat.ble (ix x2 + ix x5) (ix (gI M (shC (ix x1)) 3)) = true from g7)
        have g8 := Nat.le_of_ble_eq_true (show Nat.ble (ix x4 + ix x5) (ix (gI M (shC (ix x3)) 3)) = true from g8)
        have q1 := r1.2.2.1
        have q2 := r2.2.2.1
        refine ⟨by rw [hk.2.2.2.2]; omega, by rw [hk2.2.2.2.2]; omega, ?_⟩
        refine k _ _ rfl (fun f2 k2 => go2 _ f2 rfl rfl ?_)
        refine brK_f (by rw [i_lt, z_toInt]; omega) (brK_f (by rw [i_lt, z_toInt]; omega) (brK_f (by rw [i_lt, z_toInt]; omega) (brK_f ?_ (brK_t ?_ ?_))))
        · rw [r1.2.2.2.1, i_lt, sub_toInt (by omega) (by omega)]; omega
        · rw [r2.2.2.2.1, i_le, sub_toInt (by omega) (by omega)]; omega
        · have la := l301a (d := d) (b := b) (f := f2) (x1 := x1) (x2 := x2) (x3 := x3) (x4 := x4) (n := ix x5) (N0 := cL M (shC (ix x1) + 1) (ix x2) (shC (ix x3) + 1) (ix x4) (ix x5)) hs (by omega) (fun N hN hc => ?_) (ix x5) 0 _ (by omega) (agr_r _) (fun k hk => absurd hk (by omega))
          · rw [n_ix] at la
            exact la
          · refine l301b (d := d) (b := b) (f := f2) (x1 := x1) (x2 := x2) (x3 := x3) (x4 := x4) (n := ix x5) (N0 := N) ho (by omega) (fun N' hN' hc' => ?_) (ix x5) 0 N (by omega) (agr_r _) (fun p => by rw [if_neg (fun q => absurd q.2 (by omega))])
            rw [n_ix]
            exact k2 N' (INV_shift hI hs ho (by omega) (by omega) r1.2.2.2.2 hN hc hN' hc') (by
              have f1 : gI N' 3 = gI N 3 := funext fun j => (hN' 3 j rfl).1
              have f2 : gI N 3 = gI M 3 := funext fun j => (hN 3 j rfl).1
              rw [f1, f2])
  all_goals
    have m1 : ¬ gI M 103 (ix x1) = -1 := fun e => g1 (s1.1.mpr e)
    have m2 : ¬ gI M 103 (ix x3) = -1 := fun e => g2 (s2.1.mpr e)
  · refine k _ M rfl (fun f2 k2 => go M f2 rfl rfl (brK_f m1 (brK_f m2 ⟨fun _ => k2 M hI rfl, fun m3 => brK_f (fun e => g5 ?_) (k2 M hI rfl)⟩)))
    have g3 : gI M (shC (ix x1)) 0 = 2 := g3
    have g4 : gI M (shC (ix x3)) 0 = 2 := g4
    rcases hSh _ hs with q | q | q
    · rw [g3] at q; exact absurd q.1 (by decide)
    · rw [g3] at q; exact absurd q.1 (by decide)
    · rcases hSh _ ho with p | p | p
      · rw [g4] at p; exact absurd p.1 (by decide)
      · rw [g4] at p; exact absurd p.1 (by decide)
      · rw [q.2.1, p.2.1] at e
        show gI M (shC (ix x1)) 2 = gI M (shC (ix x3)) 2
        rw [← (srt q.2.2.1).2.2, ← (srt p.2.2.1).2.2, e]
  · refine k _ M rfl (fun f2 k2 => go M f2 rfl rfl (brK_f m1 (brK_f m2 ⟨fun _ => k2 M hI rfl, fun m3 => brK_f (fun e => m3 ?_) (k2 M hI rfl)⟩)))
    have g2 : ¬ gI M (shC (ix x3)) 0 = 0 := g2
    have g4 : ¬ gI M (shC (ix x3)) 0 = 2 := g4
    rw [e]
    refine s2.2.1.mp ?_
    rcases s2.2.2 with q | q | q
    · exact absurd q g2
    · exact q
    · exact absurd q g4
  · refine k _ M rfl (fun f2 k2 => go M f2 rfl rfl (brK_f m1 (brK_f m2 (brK_t (s1.2.1.mp ?_) (k2 M hI rfl)))))
    have g1 : ¬ gI M (shC (ix x1)) 0 = 0 := g1
    have g3 : ¬ gI M (shC (ix x1)) 0 = 2 := g3
    rcases s1.2.2 with q | q | q
    · exact absurd q g1
    · exact q
    · exact absurd q g3
end SHIFT
