/-! THE LAW'S TEXT, READ BY THE REFERENCE -/
def rB (tp : Nat → Int32) (n p : Nat) : Int32 := bif Nat.blt p n then (tp p).toInt8.toInt32 else -1
theorem i8_v : ∀ t, t < 256 → (t < 128 → (nI t).toInt8.toInt32 = nI t) ∧ (¬ t < 128 → (nI t).toInt8.toInt32.toInt < 0) := by decide +kernel
theorem rB_c {tp : Nat → Int32} {n p : Nat} {c : Int32} (ht : p < n → ix (tp p) < 256) (hc : ix c < 128) : rB tp n p = c ↔ bH tp n p = c := by
  unfold rB bH
  cases hp : Nat.blt p n with
  | false => exact Iff.rfl
  | true =>
    show (tp p).toInt8.toInt32 = c ↔ tp p = c
    have h := ht (blt_i.mp hp)
    have v := i8_v (ix (tp p)) h
    rw [n_ix] at v
    by_cases q : ix (tp p) < 128
    · rw [v.1 q]
    · have v2 := v.2 q
      have c1 := ix_t c
      constructor
      · intro e; rw [e] at v2; omega
      · intro e; rw [e] at q; exact absurd hc q
theorem i8_c {c : Int32} (hc : ix c < 128) : c.toInt8.toInt32.toInt8.toInt32 = c := by
  have v := (i8_v (ix c) (by omega)).1 hc
  rw [n_ix] at v
  rw [v, v]
def RS (tp : Nat → Int32) (n : Nat) (N : M2) (p : Nat) (o : Int32) (l : Nat) (flt : Int32) : Prop := gI N 67 16 = nI n ∧ (∀ j, j < 120 → gI N 78 j = (tp j).toInt8.toInt32) ∧ gI N 67 17 = nI p ∧ gI N 67 18 = flt ∧ gI N 67 19 = o ∧ gI N 67 20 = nI l
def SK (N : M2) (cd : LC) : Prop := ∀ j, j < cd.length → sgR (cd.getD j 0) (gI N 79 (130 + j)) (gI N 80 (130 + j))
def frR : Nat → Nat → Bool := fun r j => !(Nat.beq r 67 && (Nat.ble 17 j && Nat.ble j 20)) && (!(Nat.beq r 79 && Nat.ble 130 j) && !(Nat.beq r 80 && Nat.ble 130 j))
def RPb (tp : Nat → Int32) (n p0 l0 : Nat) (N : M2) (r : PR) (o : Int32) : Prop := (r.1 = true ∧ RS tp n N r.2.1 o r.2.2.length (-1) ∧ SK N r.2.2) ∨ ((r.1 = true → isDg (bH tp n r.2.1) = true) ∧ ∃ o' l', RS tp n N r.2.1 o' l' (nI r.2.1) ∧ l' + p0 ≤ l0 + r.2.1 + 1)
def RTX (b : Bool) (tp : Nat → Int32) (n : Nat) (X : PF) (mu d0 : Nat) (args : List Value) (o : Int32) : Prop := ∀ (d p : Nat) (cd : LC) (N : M2) (g : Mm → Prop), d0 ≤ d → RS tp n N p o cd.length (-1) → SK N cd → p ≤ n → cd.length ≤ p → (∀ N', agr frR N N' → RPb tp n p cd.length N' (X p cd) o → g (FR b, N')) → WP d 107 mu 0 args [] 107 (FR b, N) (rV g)
theorem RS_p {tp : Nat → Int32} {n : Nat} {N : M2} {p p' : Nat} {o flt : Int32} {l : Nat} (h : RS tp n N p o l flt) : RS tp n (sI N 67 17 (nI p')) p' o l flt := ⟨(gI_oj (by decide)).trans h.1, fun j hj => (gI_or (by decide)).trans (h.2.1 j hj), gI_s .., (gI_oj (by decide)).trans h.2.2.2.1, (gI_oj (by decide)).trans h.2.2.2.2.1, (gI_oj (by decide)).trans h.2.2.2.2.2⟩
theorem SK_7 {N : M2} {cd : LC} {k : Nat} {v : Int32} (h : SK N cd) : SK (sI N 67 k v) cd := fun j hj => by rw [gI_or (by decide), gI_or (by decide)]; exact h j hj
theorem frR7 {N : M2} {k : Nat} {v : Int32} (h1 : 17 ≤ k) (h2 : k ≤ 20) : agr frR N (sI N 67 k v) := agr_sI (by unfold frR; rw [ble_t h1, ble_t h2]; rfl) (agr_r N)
section RREAD
variable {d : Nat} {b : Bool} {tp : Nat → Int32} {n p l : Nat} {cd : LC} {N : M2} {f : Int32 → Mm → Prop} {g : Mm → Prop} {X : PF} {o flt : Int32} {d0 : Nat}
theorem k207 (hd : 1 ≤ d) (hn : n ≤ 120) (hp : p ≤ n) (hR : RS tp n N p o l flt) (k : f (rB tp n p) (FR b, N)) : WP d 107 207 0 [.ref 67] [] 107 (FR b, N) (rI f) := by
  obtain ⟨d, rfl⟩ := ex1 hd
  have ep : ix (nI p) = p := ix_n (by omega)
  unfold rB at k
  refine v207_0 ?_
  rw [hR.1, hR.2.2.1]
  refine ⟨fun h => ?_, fun h => ?_⟩
  · rw [nI_leI (by omega) (by omega)] at h
    rw [blt_f.mpr (by omega)] at k
    exact k
  · rw [nI_leI (by omega) (by omega)] at h
    rw [blt_i.mpr (by omega)] at k
    refine iK_i (by omega) ?_
    rw [ep, hR.2.1 p (by omega)]
    exact k
theorem k211 (hd : 1 ≤ d) (hR : RS tp n N p o l flt) (hf : 0 ≤ flt → g (FR b, N)) (k : ¬ 0 ≤ flt → RS tp n (sI N 67 18 (nI p)) p o l (nI p) → g (FR b, sI N 67 18 (nI p))) : WP d 107 211 0 [.ref 67] [] 107 (FR b, N) (rV g) := by
  obtain ⟨d, rfl⟩ := ex1 hd
  refine v211_0 ?_
  rw [hR.2.2.2.1, hR.2.2.1]
  exact ⟨hf, fun h => k h ⟨(gI_oj (by decide)).trans hR.1, fun j hj => (gI_or (by decide)).trans (hR.2.1 j hj), (gI_oj (by decide)).trans hR.2.2.1, gI_s .., (gI_oj (by decide)).trans hR.2.2.2.2.1, (gI_oj (by decide)).trans hR.2.2.2.2.2⟩⟩
theorem k209 {w v : Int32} (hd : 1 ≤ d) (hl : l < 130) (hw : ix w < 128) (hR : RS tp n N p o l flt) (k : ∀ N', agr frR N N' → RS tp n N' p o (l + 1) flt → gI N' 79 (130 + l) = w → gI N' 80 (130 + l) = v → (∀ j, j ≠ 130 + l → gI N' 79 j = gI N 79 j ∧ gI N' 80 j = gI N 80 j) → g (FR b, N')) : WP d 107 209 0 [.ref 67, .int w, .int v] [] 107 (FR b, N) (rV g) := by
  obtain ⟨d, rfl⟩ := ex1 hd
  have e : (130 : Int32) + nI l = nI (130 + l) := nI_add 130 l
  have ei : ix (nI (130 + l)) = 130 + l := ix_n (by omega)
  refine v209_0 ?_
  rw [hR.2.2.2.2.2, e, ei, i8_c hw, nI_1]
  refine iK_i (by omega) (iK_i (by omega) (k _ (agr_sI rfl (agr_sI ?_ (agr_sI ?_ (agr_r N)))) ⟨(gI_oj (by decide)).trans ((gI_or (by decide)).trans ((gI_or (by decide)).trans hR.1)), fun j hj => (gI_or (by decide)).trans ((gI_or (by decide)).trans ((gI_or (by decide)).trans (hR.2.1 j hj))), (gI_oj (by decide)).trans ((gI_or (by decide)).trans ((gI_or (by decide)).trans hR.2.2.1)), (gI_oj (by decide)).trans ((gI_or (by decide)).trans ((gI_or (by decide)).trans hR.2.2.2.1)), (gI_oj (by decide)).trans ((gI_or (by decide)).trans ((gI_or (by decide)).trans hR.2.2.2.2.1)), gI_s ..⟩ ?_ ?_ (fun j hj => ⟨?_, ?_⟩)))
  · unfold frR; rw [ble_t (show 130 ≤ 130 + l by omega)]; rfl
  · unfold frR; rw [ble_t (show 130 ≤ 130 + l by omega)]; rfl
  · rw [gI_or (by decide), gI_or (by decide), gI_s]
  · rw [gI_or (by decide), gI_s]
  · rw [gI_or (a := 79) (r := 67) (by decide), gI_or (a := 79) (r := 80) (by decide), gI_oj hj]
  · rw [gI_or (a := 80) (r := 67) (by decide), gI_oj hj, gI_or (a := 80) (r := 79) (by decide)]
theorem SK_add {N N' : M2} {c w v : Int32} (h : SK N cd) (h1 : gI N' 79 (130 + cd.length) = w) (h2 : gI N' 80 (130 + cd.length) = v) (h3 : ∀ j, j ≠ 130 + cd.length → gI N' 79 j = gI N 79 j ∧ gI N' 80 j = gI N 80 j) (hs : sgR c w v) : SK N' (cd ++ [c]) := by
  intro j hj
  rw [List.length_append] at hj
  have hj : j < cd.length + 1 := hj
  by_cases q : j = cd.length
  · subst q; rw [getD_e, h1, h2]; exact hs
  · rw [getD_l (by omega), (h3 (130 + j) (by omega)).1, (h3 (130 + j) (by omega)).2]
    exact h j (by omega)
theorem sgR_bin {c : Int32} (h : isBin c = true) : sgR c c 0 := Or.inr (Or.inr (Or.inr (Or.inr ⟨h, rfl⟩)))
theorem bin_128 {c : Int32} (h : isBin c = true) : ix c < 128 := by
  unfold isBin at h
  simp only [Bool.or_eq_true, decide_eq_true_eq] at h
  rcases h with e | e | e | e | e | e | e | e | e | e <;> subst e <;> decide
/-- a sign is added behind what was read -/
theorem kadd {c w : Int32} {r : PR} {p0 l0 : Nat} (hd : 1 ≤ d) (hn : n ≤ 120) (hr : r.2.1 ≤ n) (hl : r.2.2.length ≤ r.2.1) (hs : sgR c w 0) (hw : ix w < 128) (hb : l0 ≤ p0) (h : RPb tp n (p0 + 1) l0 N r o) (k : ∀ N', agr frR N N' → RPb tp n p0 l0 N' (adS c r) o → g (FR b, N')) : WP d 107 209 0 [.ref 67, .int w, .int 0] [] 107 (FR b, N) (rV g) := by
  rcases h with ⟨h1, h2, h3⟩ | ⟨h1, o', l', h2, h3⟩
  · refine k209 hd (by omega) hw h2 (fun N' hN' hR' e1 e2 e3 => k N' hN' (Or.inl ⟨h1, ?_, SK_add h3 e1 e2 e3 hs⟩))
    show RS tp n N' r.2.1 o (r.2.2 ++ [c]).length (-1)
    rw [List.length_append]
    exact hR'
  · exact k209 hd (by omega) hw h2 (fun N' hN' hR' e1 e2 e3 => k N' hN' (Or.inr ⟨h1, o', l' + 1, hR', by show l' + 1 + p0 ≤ l0 + r.2.1 + 1; omega⟩))
theorem loop_stop {tk : Int32 → Bool} (ht : ∀ c, isDg c = true → tk c = false) {r : PR} (h : r.1 = true → isDg (bH tp n r.2.1) = true) : ∀ m, loopP (bH tp n) tk X m r = r
  | 0 => rfl
  | m + 1 => by
    unfold loopP
    cases z : r.1 with
    | false => rfl
    | true => rw [ht _ (h z)]; rfl
theorem dg_v {c : Int32} (h : isDg c = true) : ∃ t, 48 ≤ t ∧ t ≤ 57 ∧ c = nI t := ⟨ix c, (dg_ix h).1, (dg_ix h).2, (n_ix c).symm⟩
theorem tk3_d {a e i : Int32} (h : ∀ t, t < 58 → 48 ≤ t → tk3 a e i (nI t) = false) (c : Int32) (hc : isDg c = true) : tk3 a e i c = false := by
  obtain ⟨t, h1, h2, rfl⟩ := dg_v hc
  exact h t (by omega) h1
theorem tk1_d {a : Int32} (h : ∀ t, t < 58 → 48 ≤ t → tk1 a (nI t) = false) (c : Int32) (hc : isDg c = true) : tk1 a c = false := by
  obtain ⟨t, h1, h2, rfl⟩ := dg_v hc
  exact h t (by omega) h1
theorem nn_p {p : Nat} (h : p ≤ 120) : (0 : Int32) ≤ nI p := by
  have := nI_toInt (n := p) (by omega)
  rw [i_le, z_toInt]; omega
theorem R205 (hn : n ≤ 120) (ht : ∀ j, j < 120 → ix (tp j) < 256) (hX : PFok n X) (hT : RTX b tp n X 206 d0 [.ref 67, U] o) (hd0 : 3 ≤ d0) : RTX b tp n (binL (bH tp n) (tk3 42 47 37) 120 X) 205 (d0 + 1) [.ref 67, U] o := by
  intro d p cd N0 g hd hR0 hS0 hp0 hl0 q
  obtain ⟨d, rfl⟩ := ex1 (e := d0) hd
  have rb : ∀ {p : Nat} {c : Int32}, p ≤ n → ix c < 128 → (rB tp n p = c ↔ bH tp n p = c) := fun hp hc => rB_c (fun h => ht _ (by omega)) hc
  have lp : ∀ m (r : PR) (N : M2) (u1 : Value), 120 ≤ m + r.2.1 → r.2.1 ≤ n → r.2.2.length ≤ r.2.1 → r.2.2.length + p ≤ cd.length + r.2.1 → agr frR N0 N → RPb tp n p cd.length N r o → (∀ N', agr frR N0 N' → RPb tp n p cd.length N' (loopP (bH tp n) (tk3 42 47 37) X m r) o → g (FR b, N')) → WP (d + 1) 107 205 4 [.ref 67, u1] [] 107 (FR b, N) (rV g) := by
    intro m
    induction m with
    | zero =>
      intro r N u1 hm hrp hrl hrb hN hr q
      rcases hr with ⟨h1, h2, h3⟩ | ⟨h1, o', l', h2, h3⟩
      · have e1 : bH tp n r.2.1 = -1 := bHok r.2.1 (by omega)
        have ne : ∀ c : Int32, ix c < 128 → ¬ rB tp n r.2.1 = c := fun c hc e => by
          rw [rb hrp hc, e1] at e
          rw [← e] at hc
          exact absurd hc (by decide)
        refine v205_4 (brK_f (by rw [h2.2.2.2.1]; decide) (k207 (by omega) hn hrp h2 ⟨rfl, ?_⟩))
        have qq := q N hN (Or.inl ⟨h1, h2, h3⟩)
        exact brK_f (ne 42 (by decide)) (k207 (by omega) hn hrp h2 ⟨rfl, brK_f (ne 47 (by decide)) (k207 (by omega) hn hrp h2 ⟨rfl, brK_f (ne 37 (by decide)) qq⟩)⟩)
      · exact v205_4 (brK_t (by rw [h2.2.2.2.1]; exact nn_p (by omega)) (q N hN (Or.inr ⟨h1, o', l', h2, h3⟩)))
    | succ m ih =>
      intro r N u1 hm hrp hrl hrb hN hr q
      rcases hr with ⟨h1, h2, h3⟩ | ⟨h1, o', l', h2, h3⟩
      · refine v205_4 (brK_f (by rw [h2.2.2.2.1]; decide) (k207 (by omega) hn hrp h2 ⟨rfl, ?_⟩))
        unfold loopP at q
        cases y : tk3 42 47 37 (bH tp n r.2.1) with
        | false =>
          rw [h1, y] at q
          have qq := q N hN (Or.inl ⟨h1, h2, h3⟩)
          have ne : ∀ c : Int32, ix c < 128 → tk3 42 47 37 c = true → ¬ rB tp n r.2.1 = c := fun c hc hc2 e => by
            rw [rb hrp hc] at e
            rw [e, hc2] at y
            exact Bool.noConfusion y
          exact brK_f (ne 42 (by decide) rfl) (k207 (by omega) hn hrp h2 ⟨rfl, brK_f (ne 47 (by decide) rfl) (k207 (by omega) hn hrp h2 ⟨rfl, brK_f (ne 37 (by decide) rfl) qq⟩)⟩)
        | true =>
          rw [h1, y] at q
          have hbb := tk3_b (B := bH tp n) bHok (a := 42) (e := 47) (i := 37) rfl rfl rfl (by decide) (by decide) (by decide) _ y
          have er : rB tp n r.2.1 = bH tp n r.2.1 := (rb hrp (bin_128 hbb.2)).mpr rfl
          have ok := ads_ok (c := bH tp n r.2.1) hX hbb.1 hrl
          have go : ∀ (N : M2) (w : Int32), w = bH tp n r.2.1 → RS tp n N r.2.1 o r.2.2.length (-1) → SK N r.2.2 → agr frR N0 N → WP d 107 206 0 [.ref 67, U] [] 107 (FR b, sI N 67 17 (gI N 67 17 + 1)) (rV (fun N3 => N3.1 = FR b ∧ (WP d 107 209 0 [.ref 67, .int w, .int 0] [] 107 (FR b, N3.2) (rV (fun N4 => N4.1 = FR b ∧ (WP (d + 1) 107 205 4 [.ref 67, .int w] [] 107 (FR b, N4.2) (rV g))))))) := by
            intro N w hw h2 h3 hN
            subst hw
            rw [h2.2.2.1, nI_1]
            refine hT d (r.2.1 + 1) r.2.2 _ _ (by omega) (RS_p h2) (SK_7 h3) hbb.1 (by omega) (fun N1 hN1 hr1 => ⟨rfl, kadd (r := X (r.2.1 + 1) r.2.2) (c := bH tp n r.2.1) (p0 := r.2.1) (l0 := r.2.2.length) (by omega) hn ok.1 (by have := ok.2.2.2; omega) (sgR_bin hbb.2) (bin_128 hbb.2) hrl hr1 (fun N2 hN2 hr2 => ⟨rfl, ?_⟩)⟩)
            refine ih (adS (bH tp n r.2.1) (X (r.2.1 + 1) r.2.2)) N2 _ (by have := ok.2.2.1; omega) ok.1 ok.2.1 ?_ (agr_t hN (agr_t (frR7 (by decide) (by decide)) (agr_t hN1 hN2))) ?_ q
            · obtain ⟨seg, g1, g2, g3, g4, g5⟩ := hX (r.2.1 + 1) r.2.2 hbb.1
              show ((X (r.2.1 + 1) r.2.2).2.2 ++ [bH tp n r.2.1]).length + p ≤ cd.length + (X (r.2.1 + 1) r.2.2).2.1
              rw [g1, List.length_append, List.length_append, List.length_cons, List.length_nil]
              omega
            · rcases hr2 with h | ⟨h, o', l', h', h''⟩
              · exact Or.inl h
              · exact Or.inr ⟨h, o', l', h', by omega⟩
          have g2 : WP (d + 1) 107 205 38 [.ref 67, u1] [] 107 (FR b, N) (rV g) := v205_38 (k207 (by omega) hn hrp h2 ⟨rfl, go N _ er h2 h3 hN⟩)
          refine ⟨fun _ => g2, fun z1 => k207 (by omega) hn hrp h2 ⟨rfl, ⟨fun _ => g2, fun z2 => k207 (by omega) hn hrp h2 ⟨rfl, brK_t ?_ g2⟩⟩⟩⟩
          unfold tk3 at y
          simp only [Bool.or_eq_true, decide_eq_true_eq] at y
          rw [er] at z1 z2 ⊢
          rcases y with e | e | e
          · exact absurd e z1
          · exact absurd e z2
          · exact e
      · have e := loop_stop (X := X) (tp := tp) (n := n) (tk := tk3 42 47 37) (tk3_d (by decide)) h1 (m + 1)
        rw [e] at q
        exact v205_4 (brK_t (by rw [h2.2.2.2.1]; exact nn_p (by omega)) (q N hN (Or.inr ⟨h1, o', l', h2, h3⟩)))
  have s0 := st_ok hX hp0 hl0
  refine v205_0 (hT d p cd N0 _ (by omega) hR0 hS0 hp0 hl0 (fun N1 hN1 hr1 => ⟨rfl, lp 120 (X p cd) N1 _ (by omega) s0.1 s0.2 ?_ hN1 hr1 q⟩))
  obtain ⟨seg, g1, g2, g3, g4, g5⟩ := hX p cd hp0
  rw [g1, List.length_append]
  omega
theorem R204 (hn : n ≤ 120) (ht : ∀ j, j < 120 → ix (tp j) < 256) (hX : PFok n X) (hT : RTX b tp n X 205 d0 [.ref 67, U] o) (hd0 : 3 ≤ d0) : RTX b tp n (binL (bH tp n) (tk3 43 45 45) 120 X) 204 (d0 + 1) [.ref 67, U] o := by
  intro d p cd N0 g hd hR0 hS0 hp0 hl0 q
  obtain ⟨d, rfl⟩ := ex1 (e := d0) hd
  have rb : ∀ {p : Nat} {c : Int32}, p ≤ n → ix c < 128 → (rB tp n p = c ↔ bH tp n p = c) := fun hp hc => rB_c (fun h => ht _ (by omega)) hc
  have lp : ∀ m (r : PR) (N : M2) (u1 : Value), 120 ≤ m + r.2.1 → r.2.1 ≤ n → r.2.2.length ≤ r.2.1 → r.2.2.length + p ≤ cd.length + r.2.1 → agr frR N0 N → RPb tp n p cd.length N r o → (∀ N', agr frR N0 N' → RPb tp n p cd.length N' (loopP (bH tp n) (tk3 43 45 45) X m r) o → g (FR b, N')) → WP (d + 1) 107 204 4 [.ref 67, u1] [] 107 (FR b, N) (rV g) := by
    intro m
    induction m with
    | zero =>
      intro r N u1 hm hrp hrl hrb hN hr q
      rcases hr with ⟨h1, h2, h3⟩ | ⟨h1, o', l', h2, h3⟩
      · have e1 : bH tp n r.2.1 = -1 := bHok r.2.1 (by omega)
        have ne : ∀ c : Int32, ix c < 128 → ¬ rB tp n r.2.1 = c := fun c hc e => by
          rw [rb hrp hc, e1] at e
          rw [← e] at hc
          exact absurd hc (by decide)
        refine v204_4 (brK_f (by rw [h2.2.2.2.1]; decide) (k207 (by omega) hn hrp h2 ⟨rfl, ?_⟩))
        have qq := q N hN (Or.inl ⟨h1, h2, h3⟩)
        exact brK_f (ne 43 (by decide)) (k207 (by omega) hn hrp h2 ⟨rfl, brK_f (ne 45 (by decide)) qq⟩)
      · exact v204_4 (brK_t (by rw [h2.2.2.2.1]; exact nn_p (by omega)) (q N hN (Or.inr ⟨h1, o', l', h2, h3⟩)))
    | succ m ih =>
      intro r N u1 hm hrp hrl hrb hN hr q
      rcases hr with ⟨h1, h2, h3⟩ | ⟨h1, o', l', h2, h3⟩
      · refine v204_4 (brK_f (by rw [h2.2.2.2.1]; decide) (k207 (by omega) hn hrp h2 ⟨rfl, ?_⟩))
        unfold loopP at q
        cases y : tk3 43 45 45 (bH tp n r.2.1) with
        | false =>
          rw [h1, y] at q
          have qq := q N hN (Or.inl ⟨h1, h2, h3⟩)
          have ne : ∀ c : Int32, ix c < 128 → tk3 43 45 45 c = true → ¬ rB tp n r.2.1 = c := fun c hc hc2 e => by
            rw [rb hrp hc] at e
            rw [e, hc2] at y
            exact Bool.noConfusion y
          exact brK_f (ne 43 (by decide) rfl) (k207 (by omega) hn hrp h2 ⟨rfl, brK_f (ne 45 (by decide) rfl) qq⟩)
        | true =>
          rw [h1, y] at q
          have hbb := tk3_b (B := bH tp n) bHok (a := 43) (e := 45) (i := 45) rfl rfl rfl (by decide) (by decide) (by decide) _ y
          have er : rB tp n r.2.1 = bH tp n r.2.1 := (rb hrp (bin_128 hbb.2)).mpr rfl
          have ok := ads_ok (c := bH tp n r.2.1) hX hbb.1 hrl
          have go : ∀ (N : M2) (w : Int32), w = bH tp n r.2.1 → RS tp n N r.2.1 o r.2.2.length (-1) → SK N r.2.2 → agr frR N0 N → WP d 107 205 0 [.ref 67, U] [] 107 (FR b, sI N 67 17 (gI N 67 17 + 1)) (rV (fun N3 => N3.1 = FR b ∧ (WP d 107 209 0 [.ref 67, .int w, .int 0] [] 107 (FR b, N3.2) (rV (fun N4 => N4.1 = FR b ∧ (WP (d + 1) 107 204 4 [.ref 67, .int w] [] 107 (FR b, N4.2) (rV g))))))) := by
            intro N w hw h2 h3 hN
            subst hw
            rw [h2.2.2.1, nI_1]
            refine hT d (r.2.1 + 1) r.2.2 _ _ (by omega) (RS_p h2) (SK_7 h3) hbb.1 (by omega) (fun N1 hN1 hr1 => ⟨rfl, kadd (r := X (r.2.1 + 1) r.2.2) (c := bH tp n r.2.1) (p0 := r.2.1) (l0 := r.2.2.length) (by omega) hn ok.1 (by have := ok.2.2.2; omega) (sgR_bin hbb.2) (bin_128 hbb.2) hrl hr1 (fun N2 hN2 hr2 => ⟨rfl, ?_⟩)⟩)
            refine ih (adS (bH tp n r.2.1) (X (r.2.1 + 1) r.2.2)) N2 _ (by have := ok.2.2.1; omega) ok.1 ok.2.1 ?_ (agr_t hN (agr_t (frR7 (by decide) (by decide)) (agr_t hN1 hN2))) ?_ q
            · obtain ⟨seg, g1, g2, g3, g4, g5⟩ := hX (r.2.1 + 1) r.2.2 hbb.1
              show ((X (r.2.1 + 1) r.2.2).2.2 ++ [bH tp n r.2.1]).length + p ≤ cd.length + (X (r.2.1 + 1) r.2.2).2.1
              rw [g1, List.length_append, List.length_append, List.length_cons, List.length_nil]
              omega
            · rcases hr2 with h | ⟨h, o', l', h', h''⟩
              · exact Or.inl h
              · exact Or.inr ⟨h, o', l', h', by omega⟩
          have g2 : WP (d + 1) 107 204 29 [.ref 67, u1] [] 107 (FR b, N) (rV g) := v204_29 (k207 (by omega) hn hrp h2 ⟨rfl, go N _ er h2 h3 hN⟩)
          refine ⟨fun _ => g2, fun z1 => k207 (by omega) hn hrp h2 ⟨rfl, brK_t ?_ g2⟩⟩
          unfold tk3 at y
          simp only [Bool.or_eq_true, decide_eq_true_eq] at y
          rw [er] at z1 ⊢
          rcases y with e | e | e
          · exact absurd e z1
          · exact e
          · exact e
      · have e := loop_stop (X := X) (tp := tp) (n := n) (tk := tk3 43 45 45) (tk3_d (by decide)) h1 (m + 1)
        rw [e] at q
        exact v204_4 (brK_t (by rw [h2.2.2.2.1]; exact nn_p (by omega)) (q N hN (Or.inr ⟨h1, o', l', h2, h3⟩)))
  have s0 := st_ok hX hp0 hl0
  refine v204_0 (hT d p cd N0 _ (by omega) hR0 hS0 hp0 hl0 (fun N1 hN1 hr1 => ⟨rfl, lp 120 (X p cd) N1 _ (by omega) s0.1 s0.2 ?_ hN1 hr1 q⟩))
  obtain ⟨seg, g1, g2, g3, g4, g5⟩ := hX p cd hp0
  rw [g1, List.length_append]
  omega
theorem R202 (hn : n ≤ 120) (ht : ∀ j, j < 120 → ix (tp j) < 256) (hX : PFok n X) (hT : RTX b tp n X 203 d0 [.ref 67, U] o) (hd0 : 3 ≤ d0) : RTX b tp n (binL (bH tp n) (tk1 38) 120 X) 202 (d0 + 1) [.ref 67] o := by
  intro d p cd N0 g hd hR0 hS0 hp0 hl0 q
  obtain ⟨d, rfl⟩ := ex1 (e := d0) hd
  have rb : ∀ {p : Nat} {c : Int32}, p ≤ n → ix c < 128 → (rB tp n p = c ↔ bH tp n p = c) := fun hp hc => rB_c (fun h => ht _ (by omega)) hc
  have lp : ∀ m (r : PR) (N : M2), 120 ≤ m + r.2.1 → r.2.1 ≤ n → r.2.2.length ≤ r.2.1 → r.2.2.length + p ≤ cd.length + r.2.1 → agr frR N0 N → RPb tp n p cd.length N r o → (∀ N', agr frR N0 N' → RPb tp n p cd.length N' (loopP (bH tp n) (tk1 38) X m r) o → g (FR b, N')) → WP (d + 1) 107 202 4 [.ref 67] [] 107 (FR b, N) (rV g) := by
    intro m
    induction m with
    | zero =>
      intro r N hm hrp hrl hrb hN hr q
      rcases hr with ⟨h1, h2, h3⟩ | ⟨h1, o', l', h2, h3⟩
      · have e1 : bH tp n r.2.1 = -1 := bHok r.2.1 (by omega)
        have ne : ∀ c : Int32, ix c < 128 → ¬ rB tp n r.2.1 = c := fun c hc e => by
          rw [rb hrp hc, e1] at e
          rw [← e] at hc
          exact absurd hc (by decide)
        refine v202_4 (brK_f (by rw [h2.2.2.2.1]; decide) (k207 (by omega) hn hrp h2 ⟨rfl, ?_⟩))
        have qq := q N hN (Or.inl ⟨h1, h2, h3⟩)
        exact brK_f (ne 38 (by decide)) qq
      · exact v202_4 (brK_t (by rw [h2.2.2.2.1]; exact nn_p (by omega)) (q N hN (Or.inr ⟨h1, o', l', h2, h3⟩)))
    | succ m ih =>
      intro r N hm hrp hrl hrb hN hr q
      rcases hr with ⟨h1, h2, h3⟩ | ⟨h1, o', l', h2, h3⟩
      · refine v202_4 (brK_f (by rw [h2.2.2.2.1]; decide) (k207 (by omega) hn hrp h2 ⟨rfl, ?_⟩))
        unfold loopP at q
        cases y : tk1 38 (bH tp n r.2.1) with
        | false =>
          rw [h1, y] at q
          have qq := q N hN (Or.inl ⟨h1, h2, h3⟩)
          have ne : ∀ c : Int32, ix c < 128 → tk1 38 c = true → ¬ rB tp n r.2.1 = c := fun c hc hc2 e => by
            rw [rb hrp hc] at e
            rw [e, hc2] at y
            exact Bool.noConfusion y
          exact brK_f (ne 38 (by decide) rfl) qq
        | true =>
          rw [h1, y] at q
          have hbb := tk1_b (B := bH tp n) bHok (a := 38) rfl (by decide) _ y
          have er : rB tp n r.2.1 = bH tp n r.2.1 := (rb hrp (bin_128 hbb.2)).mpr rfl
          have ok := ads_ok (c := bH tp n r.2.1) hX hbb.1 hrl
          have go : ∀ (N : M2) (w : Int32), w = bH tp n r.2.1 → RS tp n N r.2.1 o r.2.2.length (-1) → SK N r.2.2 → agr frR N0 N → WP d 107 203 0 [.ref 67, U] [] 107 (FR b, sI N 67 17 (gI N 67 17 + 1)) (rV (fun N3 => N3.1 = FR b ∧ (WP d 107 209 0 [.ref 67, .int w, .int 0] [] 107 (FR b, N3.2) (rV (fun N4 => N4.1 = FR b ∧ (WP (d + 1) 107 202 4 [.ref 67] [] 107 (FR b, N4.2) (rV g))))))) := by
            intro N w hw h2 h3 hN
            subst hw
            rw [h2.2.2.1, nI_1]
            refine hT d (r.2.1 + 1) r.2.2 _ _ (by omega) (RS_p h2) (SK_7 h3) hbb.1 (by omega) (fun N1 hN1 hr1 => ⟨rfl, kadd (r := X (r.2.1 + 1) r.2.2) (c := bH tp n r.2.1) (p0 := r.2.1) (l0 := r.2.2.length) (by omega) hn ok.1 (by have := ok.2.2.2; omega) (sgR_bin hbb.2) (bin_128 hbb.2) hrl hr1 (fun N2 hN2 hr2 => ⟨rfl, ?_⟩)⟩)
            refine ih (adS (bH tp n r.2.1) (X (r.2.1 + 1) r.2.2)) N2 (by have := ok.2.2.1; omega) ok.1 ok.2.1 ?_ (agr_t hN (agr_t (frR7 (by decide) (by decide)) (agr_t hN1 hN2))) ?_ q
            · obtain ⟨seg, g1, g2, g3, g4, g5⟩ := hX (r.2.1 + 1) r.2.2 hbb.1
              show ((X (r.2.1 + 1) r.2.2).2.2 ++ [bH tp n r.2.1]).length + p ≤ cd.length + (X (r.2.1 + 1) r.2.2).2.1
              rw [g1, List.length_append, List.length_append, List.length_cons, List.length_nil]
              omega
            · rcases hr2 with h | ⟨h, o', l', h', h''⟩
              · exact Or.inl h
              · exact Or.inr ⟨h, o', l', h', by omega⟩
          have y' : bH tp n r.2.1 = 38 := of_decide_eq_true y
          refine brK_t (er.trans y') (go N _ y'.symm h2 h3 hN)
      · have e := loop_stop (X := X) (tp := tp) (n := n) (tk := tk1 38) (tk1_d (by decide)) h1 (m + 1)
        rw [e] at q
        exact v202_4 (brK_t (by rw [h2.2.2.2.1]; exact nn_p (by omega)) (q N hN (Or.inr ⟨h1, o', l', h2, h3⟩)))
  have s0 := st_ok hX hp0 hl0
  refine v202_0 (hT d p cd N0 _ (by omega) hR0 hS0 hp0 hl0 (fun N1 hN1 hr1 => ⟨rfl, lp 120 (X p cd) N1 (by omega) s0.1 s0.2 ?_ hN1 hr1 q⟩))
  obtain ⟨seg, g1, g2, g3, g4, g5⟩ := hX p cd hp0
  rw [g1, List.length_append]
  omega
theorem R201 (hn : n ≤ 120) (ht : ∀ j, j < 120 → ix (tp j) < 256) (hX : PFok n X) (hT : RTX b tp n X 202 d0 [.ref 67] o) (hd0 : 3 ≤ d0) : RTX b tp n (binL (bH tp n) (tk1 124) 120 X) 201 (d0 + 1) [.ref 67] o := by
  intro d p cd N0 g hd hR0 hS0 hp0 hl0 q
  obtain ⟨d, rfl⟩ := ex1 (e := d0) hd
  have rb : ∀ {p : Nat} {c : Int32}, p ≤ n → ix c < 128 → (rB tp n p = c ↔ bH tp n p = c) := fun hp hc => rB_c (fun h => ht _ (by omega)) hc
  have lp : ∀ m (r : PR) (N : M2), 120 ≤ m + r.2.1 → r.2.1 ≤ n → r.2.2.length ≤ r.2.1 → r.2.2.length + p ≤ cd.length + r.2.1 → agr frR N0 N → RPb tp n p cd.length N r o → (∀ N', agr frR N0 N' → RPb tp n p cd.length N' (loopP (bH tp n) (tk1 124) X m r) o → g (FR b, N')) → WP (d + 1) 107 201 4 [.ref 67] [] 107 (FR b, N) (rV g) := by
    intro m
    induction m with
    | zero =>
      intro r N hm hrp hrl hrb hN hr q
      rcases hr with ⟨h1, h2, h3⟩ | ⟨h1, o', l', h2, h3⟩
      · have e1 : bH tp n r.2.1 = -1 := bHok r.2.1 (by omega)
        have ne : ∀ c : Int32, ix c < 128 → ¬ rB tp n r.2.1 = c := fun c hc e => by
          rw [rb hrp hc, e1] at e
          rw [← e] at hc
          exact absurd hc (by decide)
        refine v201_4 (brK_f (by rw [h2.2.2.2.1]; decide) (k207 (by omega) hn hrp h2 ⟨rfl, ?_⟩))
        have qq := q N hN (Or.inl ⟨h1, h2, h3⟩)
        exact brK_f (ne 124 (by decide)) qq
      · exact v201_4 (brK_t (by rw [h2.2.2.2.1]; exact nn_p (by omega)) (q N hN (Or.inr ⟨h1, o', l', h2, h3⟩)))
    | succ m ih =>
      intro r N hm hrp hrl hrb hN hr q
      rcases hr with ⟨h1, h2, h3⟩ | ⟨h1, o', l', h2, h3⟩
      · refine v201_4 (brK_f (by rw [h2.2.2.2.1]; decide) (k207 (by omega) hn hrp h2 ⟨rfl, ?_⟩))
        unfold loopP at q
        cases y : tk1 124 (bH tp n r.2.1) with
        | false =>
          rw [h1, y] at q
          have qq := q N hN (Or.inl ⟨h1, h2, h3⟩)
          have ne : ∀ c : Int32, ix c < 128 → tk1 124 c = true → ¬ rB tp n r.2.1 = c := fun c hc hc2 e => by
            rw [rb hrp hc] at e
            rw [e, hc2] at y
            exact Bool.noConfusion y
          exact brK_f (ne 124 (by decide) rfl) qq
        | true =>
          rw [h1, y] at q
          have hbb := tk1_b (B := bH tp n) bHok (a := 124) rfl (by decide) _ y
          have er : rB tp n r.2.1 = bH tp n r.2.1 := (rb hrp (bin_128 hbb.2)).mpr rfl
          have ok := ads_ok (c := bH tp n r.2.1) hX hbb.1 hrl
          have go : ∀ (N : M2) (w : Int32), w = bH tp n r.2.1 → RS tp n N r.2.1 o r.2.2.length (-1) → SK N r.2.2 → agr frR N0 N → WP d 107 202 0 [.ref 67] [] 107 (FR b, sI N 67 17 (gI N 67 17 + 1)) (rV (fun N3 => N3.1 = FR b ∧ (WP d 107 209 0 [.ref 67, .int w, .int 0] [] 107 (FR b, N3.2) (rV (fun N4 => N4.1 = FR b ∧ (WP (d + 1) 107 201 4 [.ref 67] [] 107 (FR b, N4.2) (rV g))))))) := by
            intro N w hw h2 h3 hN
            subst hw
            rw [h2.2.2.1, nI_1]
            refine hT d (r.2.1 + 1) r.2.2 _ _ (by omega) (RS_p h2) (SK_7 h3) hbb.1 (by omega) (fun N1 hN1 hr1 => ⟨rfl, kadd (r := X (r.2.1 + 1) r.2.2) (c := bH tp n r.2.1) (p0 := r.2.1) (l0 := r.2.2.length) (by omega) hn ok.1 (by have := ok.2.2.2; omega) (sgR_bin hbb.2) (bin_128 hbb.2) hrl hr1 (fun N2 hN2 hr2 => ⟨rfl, ?_⟩)⟩)
            refine ih (adS (bH tp n r.2.1) (X (r.2.1 + 1) r.2.2)) N2 (by have := ok.2.2.1; omega) ok.1 ok.2.1 ?_ (agr_t hN (agr_t (frR7 (by decide) (by decide)) (agr_t hN1 hN2))) ?_ q
            · obtain ⟨seg, g1, g2, g3, g4, g5⟩ := hX (r.2.1 + 1) r.2.2 hbb.1
              show ((X (r.2.1 + 1) r.2.2).2.2 ++ [bH tp n r.2.1]).length + p ≤ cd.length + (X (r.2.1 + 1) r.2.2).2.1
              rw [g1, List.length_append, List.length_append, List.length_cons, List.length_nil]
              omega
            · rcases hr2 with h | ⟨h, o', l', h', h''⟩
              · exact Or.inl h
              · exact Or.inr ⟨h, o', l', h', by omega⟩
          have y' : bH tp n r.2.1 = 124 := of_decide_eq_true y
          refine brK_t (er.trans y') (go N _ y'.symm h2 h3 hN)
      · have e := loop_stop (X := X) (tp := tp) (n := n) (tk := tk1 124) (tk1_d (by decide)) h1 (m + 1)
        rw [e] at q
        exact v201_4 (brK_t (by rw [h2.2.2.2.1]; exact nn_p (by omega)) (q N hN (Or.inr ⟨h1, o', l', h2, h3⟩)))
  have s0 := st_ok hX hp0 hl0
  refine v201_0 (hT d p cd N0 _ (by omega) hR0 hS0 hp0 hl0 (fun N1 hN1 hr1 => ⟨rfl, lp 120 (X p cd) N1 (by omega) s0.1 s0.2 ?_ hN1 hr1 q⟩))
  obtain ⟨seg, g1, g2, g3, g4, g5⟩ := hX p cd hp0
  rw [g1, List.length_append]
  omega
end RREAD
