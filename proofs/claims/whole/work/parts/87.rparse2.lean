section RREAD2
variable {d : Nat} {b : Bool} {tp : Nat → Int32} {n p l : Nat} {cd : LC} {N : M2} {f : Int32 → Mm → Prop} {g : Mm → Prop} {X : PF} {o flt : Int32} {d0 : Nat}
theorem R203 (hn : n ≤ 120) (ht : ∀ j, j < 120 → ix (tp j) < 256) (hX : PFok n X) (hT : RTX b tp n X 204 d0 [.ref 67, U] o) (hd0 : 3 ≤ d0) : RTX b tp n (binL (bH tp n) (tk3 60 61 62) 1 X) 203 (d0 + 1) [.ref 67, U] o := by
  intro d p cd N0 g hd hR0 hS0 hp0 hl0 q
  obtain ⟨d, rfl⟩ := ex1 (e := d0) hd
  have rb : ∀ {p : Nat} {c : Int32}, p ≤ n → ix c < 128 → (rB tp n p = c ↔ bH tp n p = c) := fun hp hc => rB_c (fun h => ht _ (by omega)) hc
  have s0 := st_ok hX hp0 hl0
  refine v203_0 (hT d p cd N0 _ (by omega) hR0 hS0 hp0 hl0 (fun N1 hN1 hr1 => ⟨rfl, ?_⟩))
  rcases hr1 with ⟨h1, h2, h3⟩ | ⟨h1, o', l', h2, h3⟩
  · refine k207 (by omega) hn s0.1 h2 ⟨rfl, brK_f (by dsimp only; rw [h2.2.2.2.1]; decide) ?_⟩
    unfold binL loopP at q
    cases y : tk3 60 61 62 (bH tp n (X p cd).2.1) with
    | false =>
      rw [h1, y] at q
      have ne : ∀ c : Int32, ix c < 128 → tk3 60 61 62 c = true → ¬ rB tp n (X p cd).2.1 = c := fun c hc hc2 e => by
        rw [rb s0.1 hc] at e
        rw [e, hc2] at y
        exact Bool.noConfusion y
      exact brK_f (ne 60 (by decide) rfl) (brK_f (ne 61 (by decide) rfl) (brK_f (ne 62 (by decide) rfl) (q N1 hN1 (Or.inl ⟨h1, h2, h3⟩))))
    | true =>
      rw [h1, y] at q
      have hbb := tk3_b (B := bH tp n) bHok (a := 60) (e := 61) (i := 62) rfl rfl rfl (by decide) (by decide) (by decide) _ y
      have er : rB tp n (X p cd).2.1 = bH tp n (X p cd).2.1 := (rb s0.1 (bin_128 hbb.2)).mpr rfl
      have ok := ads_ok (r := X p cd) (c := bH tp n (X p cd).2.1) hX hbb.1 s0.2
      have g2 : WP (d + 1) 107 203 35 [.ref 67, .int (rB tp n (X p cd).2.1)] [] 107 (FR b, N1) (rV g) := by
        refine v203_35 ?_
        rw [h2.2.2.1, nI_1, er]
        refine hT d ((X p cd).2.1 + 1) (X p cd).2.2 _ _ (by omega) (RS_p h2) (SK_7 h3) hbb.1 (by have := s0.2; omega) (fun N2 hN2 hr2 => ⟨rfl, kadd (r := X ((X p cd).2.1 + 1) (X p cd).2.2) (c := bH tp n (X p cd).2.1) (p0 := (X p cd).2.1) (l0 := (X p cd).2.2.length) (by omega) hn ok.1 (by have := ok.2.2.2; omega) (sgR_bin hbb.2) (bin_128 hbb.2) s0.2 hr2 (fun N3 hN3 hr3 => ⟨rfl, q N3 (agr_t hN1 (agr_t (frR7 (by decide) (by decide)) (agr_t hN2 hN3))) ?_⟩)⟩)
        rcases hr3 with h | ⟨h, o', l', h', h''⟩
        · exact Or.inl h
        · refine Or.inr ⟨h, o', l', h', ?_⟩
          obtain ⟨seg, z1, z2, z3, z4, z5⟩ := hX p cd hp0
          have : (X p cd).2.2.length = cd.length + seg.length := by rw [z1, List.length_append]
          show l' + p ≤ cd.length + (adS (bH tp n (X p cd).2.1) (X ((X p cd).2.1 + 1) (X p cd).2.2)).2.1 + 1
          omega
      refine ⟨fun _ => g2, fun z1 => ⟨fun _ => g2, fun z2 => brK_t ?_ g2⟩⟩
      unfold tk3 at y
      simp only [Bool.or_eq_true, decide_eq_true_eq] at y
      rw [er] at z1 z2 ⊢
      rcases y with e | e | e
      · exact absurd e z1
      · exact absurd e z2
      · exact e
  · have e := loop_stop (X := X) (tp := tp) (n := n) (tk := tk3 60 61 62) (tk3_d (by decide)) h1 1
    unfold binL at q
    rw [e] at q
    exact k207 (by omega) hn s0.1 h2 ⟨rfl, brK_t (by dsimp only; rw [h2.2.2.2.1]; exact nn_p (by have := s0.1; omega)) (q N1 hN1 (Or.inr ⟨h1, o', l', h2, h3⟩))⟩
theorem REi (hn : n ≤ 120) (ht : ∀ j, j < 120 → ix (tp j) < 256) (hX : PFok n X) (hT : RTX b tp n X 206 d0 [.ref 67, U] o) (hd0 : 3 ≤ d0) : RTX b tp n (eiP (bH tp n) X) 201 (d0 + 5) [.ref 67] o :=
  R201 hn ht (boP_ok bHok hX) (R202 hn ht (coP_ok bHok hX) (R203 hn ht (suP_ok bHok hX) (R204 hn ht (prP_ok bHok hX) (R205 hn ht hX hT (by omega)) (by omega)) (by omega)) (by omega)) (by omega)
theorem k208 {c : Int32} (hd : 1 ≤ d) (k : f (bif isNm c then nmI c else -1) (FR b, N)) : WP d 107 208 0 [.int c] [] 107 (FR b, N) (rI f) := by
  obtain ⟨d, rfl⟩ := ex1 hd
  refine v208_0 ⟨fun h => by subst h; exact k, fun h1 => ⟨fun h => by subst h; exact k, fun h2 => ⟨fun h => by subst h; exact k, fun _ => ⟨fun h => by subst h; exact k, fun _ => ⟨fun h => by subst h; exact k, fun _ => ⟨fun h => by subst h; exact k, fun h3 => ⟨fun h => by subst h; exact k, fun h4 => ⟨fun h => by subst h; exact k, fun _ => ⟨fun h => by subst h; exact k, fun _ => ⟨fun h => by subst h; exact k, fun _ => ⟨fun h => by subst h; exact k, fun _ => ⟨fun h => by subst h; exact k, fun h5 => ⟨fun h => by subst h; exact k, fun _ => ⟨fun h => by subst h; exact k, fun h6 => ?_⟩⟩⟩⟩⟩⟩⟩⟩⟩⟩⟩⟩⟩⟩
  unfold isNm at k
  rw [decide_eq_false h1, decide_eq_false h2, decide_eq_false h3, decide_eq_false h4, decide_eq_false h5, decide_eq_false h6] at k
  exact k
theorem nm_v {c : Int32} (h : isNm c = true) : 0 ≤ nmI c ∧ ix c < 128 ∧ isDg c = false := by
  unfold isNm at h
  simp only [Bool.or_eq_true, decide_eq_true_eq] at h
  rcases h with e | e | e | e | e | e <;> subst e <;> decide
theorem rdg (ht : ∀ j, j < 120 → ix (tp j) < 256) (hn : n ≤ 120) (hp : p ≤ n) : isDg (rB tp n p) = isDg (bH tp n p) := by
  have rb : ∀ {c : Int32}, ix c < 128 → (rB tp n p = c ↔ bH tp n p = c) := fun hc => rB_c (fun h => ht _ (by omega)) hc
  have w : ∀ {c : Int32}, isDg c = true → ix c < 128 := fun h => by have := dg_ix h; omega
  cases h : isDg (bH tp n p) with
  | true => rw [(rb (w h)).mpr rfl]; exact h
  | false =>
    cases h2 : isDg (rB tp n p) with
    | false => rfl
    | true =>
      have := (rb (w h2)).mp rfl
      rw [this, h2] at h
      exact absurd h (by decide)
theorem rnm (ht : ∀ j, j < 120 → ix (tp j) < 256) (hn : n ≤ 120) (hp : p ≤ n) : isNm (rB tp n p) = isNm (bH tp n p) ∧ (isNm (bH tp n p) = true → rB tp n p = bH tp n p) := by
  have rb : ∀ {c : Int32}, ix c < 128 → (rB tp n p = c ↔ bH tp n p = c) := fun hc => rB_c (fun h => ht _ (by omega)) hc
  cases h : isNm (bH tp n p) with
  | true => have := (rb (nm_v h).2.1).mpr rfl; exact ⟨by rw [this]; exact h, fun _ => this⟩
  | false =>
    cases h2 : isNm (rB tp n p) with
    | false => exact ⟨rfl, fun q => Bool.noConfusion q⟩
    | true =>
      have := (rb (nm_v h2).2.1).mp rfl
      rw [this, h2] at h
      exact absurd h (by decide)
/-- a number, the reference's -/
theorem k212 (hn : n ≤ 120) (ht : ∀ j, j < 120 → ix (tp j) < 256) (hd : 4 ≤ d) (hR : RS tp n N p o cd.length (-1)) (hS : SK N cd) (hp : p ≤ n) (hl : cd.length ≤ p) (k0 : isDg (bH tp n p) = false → ∀ N', agr frR N N' → RPb tp n p cd.length N' (false, p, cd) o → g (FR b, N')) (k1 : isDg (bH tp n p) = true → ∀ N', agr frR N N' → RPb tp n p cd.length N' (true, (nbP (bH tp n) 4 p 0).1, cd ++ [1000 + (nbP (bH tp n) 4 p 0).2]) o → g (FR b, N')) : WP d 107 212 0 [.ref 67, U, U] [] 107 (FR b, N) (rV g) := by
  obtain ⟨d, rfl⟩ := ex1 (e := 3) hd
  have l : ∀ m i p v (N1 : M2), i + m = 4 → p ≤ n → agr frR N N1 → RS tp n N1 p o cd.length (-1) → SK N1 cd → (∀ N' i', i ≤ i' → i' ≤ 4 → (isDg (bH tp n p) = true → m ≠ 0 → i + 1 ≤ i') → (isDg (bH tp n p) = false → i' = i) → agr frR N N' → RS tp n N' (nbP (bH tp n) m p v).1 o cd.length (-1) → SK N' cd → WP (d + 1) 107 212 52 [.ref 67, .int (nbP (bH tp n) m p v).2, .int (nI i')] [] 107 (FR b, N') (rV g)) → WP (d + 1) 107 212 4 [.ref 67, .int v, .int (nI i)] [] 107 (FR b, N1) (rV g) := by
    intro m
    induction m with
    | zero =>
      intro i p v N1 hi hp hN hR hS q
      have : i = 4 := by omega
      subst this
      exact v212_4 (brK_t (by decide) (q N1 4 (Nat.le_refl _) (Nat.le_refl _) (fun _ h => absurd rfl h) (fun _ => rfl) hN hR hS))
    | succ m ih =>
      intro i p v N1 hi hp hN hR hS q
      unfold nbP at q
      refine v212_4 (brK_f (by rw [show (4 : Int32) = nI 4 from rfl, nI_leI (by decide) (by omega)]; omega) (k207 (by omega) hn hp hR ⟨rfl, c180 (by omega) ⟨rfl, ?_⟩⟩))
      have e : inV (rB tp n p) 48 57 = isDg (bH tp n p) := rdg ht hn hp
      rw [e]
      refine brK_b (fun z => ?_) (fun z => ?_)
      · rw [z] at q
        exact q N1 i (Nat.le_refl _) (by omega) (fun h => Bool.noConfusion h) (fun _ => rfl) hN hR hS
      · rw [z] at q
        have hlt := dg_n (B := bH tp n) bHok z
        have er : rB tp n p = bH tp n p := (rB_c (fun h => ht _ (by omega)) (by have := dg_ix z; omega)).mpr rfl
        refine k207 (by omega) hn hp hR ⟨rfl, ?_⟩
        dsimp only
        rw [hR.2.2.1, nI_1, nI_1, er, Int32.mul_comm 10 v]
        exact ih (i + 1) (p + 1) _ _ (by omega) hlt (agr_t hN (frR7 (by decide) (by decide))) (RS_p hR) (SK_7 hS) (fun N' i' h1 h2 h3 h4 h5 h6 h7 => q N' i' (by omega) h2 (fun _ _ => by omega) (fun h => Bool.noConfusion h) h5 h6 h7)
  refine v212_0 (l 4 0 p 0 N rfl hp (agr_r N) hR hS (fun N1 i' h1 h2 h3 h4 hN hR1 hS1 => ?_))
  cases z : isDg (bH tp n p) with
  | false =>
    have : i' = 0 := h4 z
    subst this
    have e0 : nbP (bH tp n) 4 p 0 = (p, 0) := by show (bif isDg (bH tp n p) then _ else _) = _; rw [z]; rfl
    rw [e0] at hR1 ⊢
    refine v212_52 (brK_t rfl (v212_70 (k211 (by omega) hR1 (fun q => absurd q (by decide)) (fun _ hR2 => ⟨rfl, ?_⟩))))
    exact k209 (by omega) (by omega) (by decide) hR2 (fun N' hN' hR' _ _ _ => ⟨rfl, k0 z N' (agr_t hN (agr_t (frR7 (by decide) (by decide)) hN')) (Or.inr ⟨fun q => Bool.noConfusion q, o, cd.length + 1, hR', by show cd.length + 1 + p ≤ cd.length + p + 1; omega⟩)⟩)
  | true =>
    have h1i := h3 z (by decide)
    have nb := nbP_1 (B := bH tp n) bHok hp z
    generalize nbP (bH tp n) 4 p 0 = R at nb hR1 k1 ⊢
    refine v212_52 (brK_f (fun q => ?_) (k207 (by omega) hn nb.2.1 hR1 ⟨rfl, c180 (by omega) ⟨rfl, ?_⟩⟩))
    · have := (ix_eq (n := 0) (by decide)).mp q
      rw [ix_n (by omega)] at this
      omega
    have e : inV (rB tp n R.1) 48 57 = isDg (bH tp n R.1) := rdg ht hn nb.2.1
    rw [e]
    refine brK_b (fun y => ?_) (fun y => v212_70 (k211 (by omega) hR1 (fun q => absurd q (by decide)) (fun _ hR2 => ⟨rfl, ?_⟩)))
    · refine k209 (by omega) (by omega) (by decide) hR1 (fun N' hN' hR' e1 e2 e3 => ⟨rfl, k1 z N' (agr_t hN hN') (Or.inl ⟨rfl, ?_, SK_add hS1 e1 e2 e3 (Or.inl ⟨R.2, nb.2.2, rfl, rfl, rfl⟩)⟩)⟩)
      show RS tp n N' R.1 o (cd ++ [1000 + R.2]).length (-1)
      rw [List.length_append]
      exact hR'
    · exact k209 (by omega) (by omega) (by decide) hR2 (fun N' hN' hR' _ _ _ => ⟨rfl, k1 z N' (agr_t hN (agr_t (frR7 (by decide) (by decide)) hN')) (Or.inr ⟨fun _ => y, o, cd.length + 1, hR', by show cd.length + 1 + p ≤ cd.length + R.1 + 1; omega⟩)⟩)
theorem RS_o {o' : Int32} (h : RS tp n N p o l flt) : RS tp n (sI N 67 19 o') p o' l flt := ⟨(gI_oj (by decide)).trans h.1, fun j hj => (gI_or (by decide)).trans (h.2.1 j hj), (gI_oj (by decide)).trans h.2.2.1, (gI_oj (by decide)).trans h.2.2.2.1, gI_s .., (gI_oj (by decide)).trans h.2.2.2.2.2⟩
theorem k210 (hd : 2 ≤ d) (hR : RS tp n N p o l (-1)) (k0 : o = 6 → RS tp n (sI N 67 18 (nI p)) p o l (nI p) → f 0 (FR b, sI N 67 18 (nI p))) (k1 : ¬ o = 6 → RS tp n (sI (sI N 67 19 (o + 1)) 67 17 (nI (p + 1))) (p + 1) (o + 1) l (-1) → f 1 (FR b, sI (sI N 67 19 (o + 1)) 67 17 (nI (p + 1)))) : WP d 107 210 0 [.ref 67] [] 107 (FR b, N) (rI f) := by
  obtain ⟨d, rfl⟩ := ex1 (e := 1) hd
  refine v210_0 ?_
  rw [hR.2.2.2.2.1]
  refine ⟨fun h => k211 (by omega) hR (fun q => absurd q (by decide)) (fun _ hR2 => ⟨rfl, k0 h hR2⟩), fun h => ?_⟩
  rw [hR.2.2.1, nI_1]
  exact k1 h (RS_p (RS_o hR))
end RREAD2
