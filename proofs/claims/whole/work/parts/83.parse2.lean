/-! THE LAW'S TEXT, READ BY THE CLASS -/
abbrev dfC (b : Bool) : Nat := bif b then 9 else 13
theorem dfK : ∀ b, kd (dfC b) = 2 ∧ dfC b < 107 ∧ kd (dfC b + 1) = 20 ∧ dfC b + 1 < 107 ∧ ln (dfC b + 1) = 120 ∧ kd (dfC b + 2) = 20 ∧ dfC b + 2 < 107 ∧ ln (dfC b + 2) = 60 ∧ kd (dfC b + 3) = 20 ∧ dfC b + 3 < 107 ∧ ln (dfC b + 3) = 60 ∧ FR b (dfC b) 0 = some (dfC b + 1) ∧ FR b (dfC b) 1 = some (dfC b + 2) ∧ FR b (dfC b) 2 = some (dfC b + 3) := by decide
theorem df7 : ∀ b, dfC b ≠ 7 ∧ dfC b + 1 ≠ 7 ∧ 7 ≠ dfC b ∧ 7 ≠ dfC b + 1 ∧ 8 ≠ dfC b ∧ 8 ≠ dfC b + 1 ∧ dfC b ≠ dfC b + 1 ∧ dfC b + 1 ≠ dfC b := by decide
theorem getD_l {l m : LC} : ∀ {j : Nat}, j < l.length → (l ++ m).getD j 0 = l.getD j 0 := by
  induction l with
  | nil => intro j h; exact absurd h (Nat.not_lt_zero _)
  | cons x l ih =>
    intro j h
    cases j with
    | zero => rfl
    | succ j => exact ih (j := j) (Nat.lt_of_succ_lt_succ h)
theorem getD_e {x : Int32} : ∀ (l : LC), (l ++ [x]).getD l.length 0 = x
  | [] => rfl
  | _ :: l => getD_e l
def CS (b : Bool) (tp : Nat → Int32) (n : Nat) (M : M2) (p : Nat) (cd : LC) : Prop := gI M 7 0 = nI n ∧ (∀ j, gI M 8 j = tp j) ∧ gI M 7 2 = nI p ∧ gI M (dfC b) 3 = nI cd.length ∧ ∀ j, j < cd.length → gI M (dfC b + 1) j = cd.getD j 0
def frl (b : Bool) : Nat → Nat → Bool := fun r j => !(Nat.beq r 7 && Nat.beq j 2) && (!(Nat.beq r (dfC b) && Nat.beq j 3) && !Nat.beq r (dfC b + 1))
theorem frl7 {b : Bool} {M : M2} {v : Int32} : agr (frl b) M (sI M 7 2 v) := agr_sI rfl (agr_r M)
theorem frl_add {b : Bool} {M : M2} {k : Nat} {x v : Int32} : agr (frl b) M (sI (sI M (dfC b + 1) k x) (dfC b) 3 v) := agr_sI (by cases b <;> rfl) (agr_sI (by cases b <;> simp [frl]) (agr_r M))
theorem CS_p {b : Bool} {tp : Nat → Int32} {n : Nat} {M : M2} {p p' : Nat} {cd : LC} (h : CS b tp n M p cd) : CS b tp n (sI M 7 2 (nI p')) p' cd := by
  have e := df7 b
  exact ⟨(gI_oj (by decide)).trans h.1, fun j => (gI_or (by decide)).trans (h.2.1 j), gI_s .., (gI_or e.1).trans h.2.2.2.1, fun j hj => (gI_or e.2.1).trans (h.2.2.2.2 j hj)⟩
theorem CS_add {b : Bool} {tp : Nat → Int32} {n : Nat} {M : M2} {p : Nat} {cd : LC} {x : Int32} (h : CS b tp n M p cd) : CS b tp n (sI (sI M (dfC b + 1) cd.length x) (dfC b) 3 (nI (cd.length + 1))) p (cd ++ [x]) := by
  have e := df7 b
  refine ⟨(gI_or e.2.2.1).trans ((gI_or e.2.2.2.1).trans h.1), fun j => (gI_or e.2.2.2.2.1).trans ((gI_or e.2.2.2.2.2.1).trans (h.2.1 j)), (gI_or e.2.2.1).trans ((gI_or e.2.2.2.1).trans h.2.2.1), ?_, fun j hj => ?_⟩
  · rw [gI_s, List.length_append]; rfl
  · rw [gI_or e.2.2.2.2.2.2.2]
    rw [List.length_append] at hj
    have hj : j < cd.length + 1 := hj
    by_cases q : j = cd.length
    · subst q; rw [gI_s, getD_e]
    · rw [gI_oj q, getD_l (by omega)]
      exact h.2.2.2.2 j (by omega)
theorem bHok {tp : Nat → Int32} {n : Nat} : Bok (bH tp n) n := fun p hp => by unfold bH; rw [blt_f.mpr (by omega)]; rfl
def CTX (b : Bool) (tp : Nat → Int32) (n : Nat) (X : PF) (mu d0 : Nat) (args : List Value) : Prop := ∀ (d p : Nat) (cd : LC) (M : M2) (f : Int32 → Mm → Prop), d0 ≤ d → CS b tp n M p cd → p ≤ n → cd.length ≤ p → (∀ M', agr (frl b) M M' → CS b tp n M' (X p cd).2.1 (X p cd).2.2 → f (bI (X p cd).1) (FR b, M')) → WP d 107 mu 0 args [] 107 (FR b, M) (rI f)
section READ
variable {d : Nat} {b : Bool} {tp : Nat → Int32} {n p : Nat} {cd : LC} {M : M2} {f : Int32 → Mm → Prop} {X : PF} {o : Int32} {d0 : Nat}
theorem k49 (hd : 1 ≤ d) (hn : n ≤ 120) (hp : p ≤ n) (hC : CS b tp n M p cd) (k : f (bH tp n p) (FR b, M)) : WP d 107 49 0 [.ref 7] [] 107 (FR b, M) (rI f) := by
  obtain ⟨d, rfl⟩ := ex1 hd
  have p1 := nI_toInt (n := p) (by omega)
  have ep : ix (nI p) = p := ix_n (by omega)
  unfold bH at k
  refine v49_0 ?_
  rw [hC.1, hC.2.2.1]
  refine brK_f (by rw [i_lt, z_toInt]; omega) ⟨fun h => ?_, fun h => ?_⟩
  · rw [nI_leI (by omega) (by omega)] at h
    rw [blt_f.mpr (by omega)] at k
    exact k
  · rw [nI_leI (by omega) (by omega)] at h
    rw [blt_i.mpr (by omega)] at k
    refine brK_f (by rw [show (120 : Int32) = nI 120 from rfl, nI_leI (by decide) (by omega)]; omega) (iK_i (by omega) ?_)
    rw [ep, hC.2.1]
    exact k
theorem k50 {c : Int32} (hd : 1 ≤ d) (k : f (bI (isDg c)) (FR b, M)) : WP d 107 50 0 [.int c] [] 107 (FR b, M) (rI f) := by
  obtain ⟨d, rfl⟩ := ex1 hd
  unfold isDg at k
  refine v50_0 ⟨fun h => ?_, fun h => ⟨fun h2 => ?_, fun h2 => ?_⟩⟩
  · rw [decide_eq_false (show ¬ (48 : Int32) ≤ c from fun q => by rw [i_lt] at h; rw [i_le] at q; omega)] at k; exact k
  · rw [decide_eq_false (show ¬ c ≤ (57 : Int32) from fun q => by rw [i_lt] at h2; rw [i_le] at q; omega), Bool.and_false] at k; exact k
  · rw [decide_eq_true (i_nlt h), decide_eq_true (i_nlt h2)] at k; exact k
theorem k52 {g : Mm → Prop} {x : Int32} (hd : 1 ≤ d) (hC : CS b tp n M p cd) (hl : cd.length < 120) (k : ∀ M', agr (frl b) M M' → CS b tp n M' p (cd ++ [x]) → g (FR b, M')) : WP d 107 52 0 [.ref (dfC b), .int x] [] 107 (FR b, M) (rV g) := by
  obtain ⟨d, rfl⟩ := ex1 hd
  have e := dfK b
  have e7 := df7 b
  have el : lenI M (dfC b + 1) = nI 120 := by unfold lenI; rw [e.2.2.1, e.2.2.2.2.1]; rfl
  have ec : ix (nI cd.length) = cd.length := ix_n (by omega)
  refine v52_0 (oK_i e.2.1 e.1 (oK_i e.2.1 e.1 (rK_i e.2.2.2.2.2.2.2.2.2.2.2.1 (rdN_i e.2.2.2.1 (by rw [e.2.2.1]; decide) ?_))))
  rw [el, hC.2.2.2.1]
  refine brK_f (by rw [nI_leI (by decide) (by omega)]; omega) (oK_i e.2.1 e.1 (rK_i e.2.2.2.2.2.2.2.2.2.2.2.1 (oK_i e.2.1 e.1 (oK_i e.2.2.2.1 e.2.2.1 (iK_i (by rw [ec, e.2.2.2.2.1]; exact hl) (oK_i e.2.1 e.1 (oK_i e.2.1 e.1 ?_)))))))
  rw [ec, sF_eq, gI_or e7.2.2.2.2.2.2.1, hC.2.2.2.1, nI_1]
  exact k _ frl_add (CS_add hC)
theorem k55 {a : Int32} (hd : 2 ≤ d) (hn : n ≤ 120) (hp : p ≤ n) (hC : CS b tp n M p cd) (h1 : bH tp n p = a → f 1 (FR b, sI M 7 2 (nI (p + 1)))) (h0 : bH tp n p ≠ a → f 0 (FR b, M)) : WP d 107 55 0 [.ref 7, .int a, U] [] 107 (FR b, M) (rI f) := by
  obtain ⟨d, rfl⟩ := ex1 (e := 1) hd
  refine v55_0 (k49 (by omega) hn hp hC ⟨rfl, ⟨fun h => brK_f (by decide) ?_, fun h => brK_t rfl (h0 h)⟩⟩)
  dsimp only
  rw [hC.2.2.1, nI_1]
  exact h1 h
theorem k56 {a e i : Int32} (hd : 2 ≤ d) (hn : n ≤ 120) (hp : p ≤ n) (hC : CS b tp n M p cd) (h1 : tk3 a e i (bH tp n p) = true → f (bH tp n p) (FR b, sI M 7 2 (nI (p + 1)))) (h0 : tk3 a e i (bH tp n p) = false → f 0 (FR b, M)) : WP d 107 56 0 [.ref 7, .int a, .int e, .int i, U] [] 107 (FR b, M) (rI f) := by
  obtain ⟨d, rfl⟩ := ex1 (e := 1) hd
  unfold tk3 at h1 h0
  refine v56_0 (k49 (by omega) hn hp hC ⟨rfl, brK_d (fun h => ?_) (fun h => brK_d (fun h2 => ?_) (fun h2 => brK_d (fun h3 => ?_) (fun h3 => h0 (by rw [h, h2, h3]; rfl))))⟩)
  all_goals
    dsimp only
    rw [hC.2.2.1, nI_1]
  · exact h1 (by rw [h]; rfl)
  · exact h1 (by rw [h, h2]; rfl)
  · exact h1 (by rw [h, h2, h3]; rfl)
theorem tk3_0 {a e i c : Int32} (ha : a ≠ 0) (he : e ≠ 0) (hi : i ≠ 0) (h : tk3 a e i c = true) : c ≠ 0 := by
  unfold tk3 at h
  simp only [Bool.or_eq_true, decide_eq_true_eq] at h
  rcases h with q | q | q <;> rw [q] <;> assumption
/-- the sign that lies behind, and where the class is by then -/
def sgR' (tk : Int32 → Bool) (B : Nat → Int32) (r : PR) : Int32 := bif r.1 && tk (B r.2.1) then B r.2.1 else 0
def plR (tk : Int32 → Bool) (B : Nat → Int32) (r : PR) : Nat := bif r.1 && tk (B r.2.1) then r.2.1 + 1 else r.2.1
theorem ads_ok {r : PR} {c : Int32} (hX : PFok n X) (hp : r.2.1 + 1 ≤ n) (hl : r.2.2.length ≤ r.2.1) : (adS c (X (r.2.1 + 1) r.2.2)).2.1 ≤ n ∧ (adS c (X (r.2.1 + 1) r.2.2)).2.2.length ≤ (adS c (X (r.2.1 + 1) r.2.2)).2.1 ∧ r.2.1 + 1 ≤ (adS c (X (r.2.1 + 1) r.2.2)).2.1 ∧ (X (r.2.1 + 1) r.2.2).2.2.length < (X (r.2.1 + 1) r.2.2).2.1 := by
  obtain ⟨seg, h1, h2, h3, h4, h5⟩ := hX (r.2.1 + 1) r.2.2 hp
  have e : (X (r.2.1 + 1) r.2.2).2.2.length = r.2.2.length + seg.length := by rw [h1, List.length_append]
  refine ⟨h3, ?_, h2, by omega⟩
  show ((X (r.2.1 + 1) r.2.2).2.2 ++ [c]).length ≤ (X (r.2.1 + 1) r.2.2).2.1
  rw [List.length_append, List.length_cons, List.length_nil]
  omega
theorem st_ok (hX : PFok n X) (hp : p ≤ n) (hl : cd.length ≤ p) : (X p cd).2.1 ≤ n ∧ (X p cd).2.2.length ≤ (X p cd).2.1 := by
  obtain ⟨seg, h1, h2, h3, h4, h5⟩ := hX p cd hp
  exact ⟨h3, by rw [h1, List.length_append]; omega⟩
theorem T47 (hn : n ≤ 120) (hX : PFok n X) (hT : CTX b tp n X 48 d0 [.ref 7, .int o, U]) (hd0 : 4 ≤ d0) : CTX b tp n (binL (bH tp n) (tk3 42 47 37) 120 X) 47 (d0 + 1) [.ref 7, .int o, U, U, U] := by
  intro d p cd M0 f hd hC0 hp0 hl0 q
  obtain ⟨d, rfl⟩ := ex1 (e := d0) hd
  have nz : ∀ c, tk3 42 47 37 c = true → c ≠ 0 := fun c h => tk3_0 (by decide) (by decide) (by decide) h
  have l : ∀ m i (r : PR) (M : M2), i + m = 120 → i ≤ r.2.1 → r.2.1 ≤ n → r.2.2.length ≤ r.2.1 → agr (frl b) M0 M → CS b tp n M (plR (tk3 42 47 37) (bH tp n) r) r.2.2 → (∀ M', agr (frl b) M0 M' → CS b tp n M' (loopP (bH tp n) (tk3 42 47 37) X m r).2.1 (loopP (bH tp n) (tk3 42 47 37) X m r).2.2 → f (bI (loopP (bH tp n) (tk3 42 47 37) X m r).1) (FR b, M')) → WP (d + 1) 107 47 28 [.ref 7, .int o, .int (bI r.1), .int (sgR' (tk3 42 47 37) (bH tp n) r), .int (nI i)] [] 107 (FR b, M) (rI f) := by
    intro m
    induction m with
    | zero =>
      intro i r M hi hip hp hl hM hC q
      have : i = 120 := by omega
      subst this
      have : plR (tk3 42 47 37) (bH tp n) r = r.2.1 := by
        unfold plR
        rw [bHok r.2.1 (by omega), show tk3 42 47 37 (-1) = false from rfl, Bool.and_false]
        rfl
      rw [this] at hC
      exact v47_28 (brK_t (by decide) (iK_b (q M hM hC)))
    | succ m ih =>
      intro i r M hi hip hp hl hM hC q
      refine v47_28 (brK_f (by rw [show (120 : Int32) = nI 120 from rfl, nI_leI (by decide) (by omega)]; omega) ?_)
      unfold loopP at q
      unfold sgR'
      unfold plR at hC
      cases ht : (r.1 && tk3 42 47 37 (bH tp n r.2.1)) with
      | false =>
        rw [ht] at q hC
        exact brK_t rfl (iK_b (q M hM hC))
      | true =>
        rw [ht] at q hC
        have ht2 := (Bool.and_eq_true _ _ ▸ ht).2
        have hlt := (tk3_b (B := bH tp n) bHok (a := 42) (e := 47) (i := 37) rfl rfl rfl (by decide) (by decide) (by decide) _ ht2).1
        have ok := ads_ok (c := bH tp n r.2.1) hX hlt hl
        refine brK_f (nz _ ht2) (hT d (r.2.1 + 1) r.2.2 M _ (by omega) hC hlt (by omega) (fun M1 hM1 hC1 => ⟨rfl, oK_i (dfK b).2.1 (dfK b).1 (k52 (by omega) hC1 (by have := ok.1; have : (X (r.2.1 + 1) r.2.2).2.1 ≤ n := ok.1; omega) (fun M2' hM2 hC2 => ⟨rfl, ?_⟩))⟩))
        have hM3 := agr_t hM (agr_t hM1 hM2)
        refine brK_b (fun z => ?_) (fun z => ?_)
        · have go := ih (i + 1) (adS (bH tp n r.2.1) (X (r.2.1 + 1) r.2.2)) M2' (by omega) (by have := ok.2.2.1; omega) ok.1 ok.2.1 hM3
          unfold sgR' plR at go
          rw [show (adS (bH tp n r.2.1) (X (r.2.1 + 1) r.2.2)).1 = false from z] at go
          rw [show (X (r.2.1 + 1) r.2.2).1 = false from z, nI_1]
          exact go hC2 q
        · have go := ih (i + 1) (adS (bH tp n r.2.1) (X (r.2.1 + 1) r.2.2)) 
          unfold sgR' plR at go
          rw [show (adS (bH tp n r.2.1) (X (r.2.1 + 1) r.2.2)).1 = true from z] at go
          rw [show (X (r.2.1 + 1) r.2.2).1 = true from z]
          refine k56 (by omega) hn ok.1 hC2 (fun y => ⟨rfl, ?_⟩) (fun y => ⟨rfl, ?_⟩)
          · have y' : tk3 42 47 37 (bH tp n (adS (bH tp n r.2.1) (X (r.2.1 + 1) r.2.2)).2.1) = true := y
            rw [y'] at go
            rw [nI_1]
            exact go _ (by omega) (by have := ok.2.2.1; omega) ok.1 ok.2.1 (agr_t hM3 frl7) (CS_p hC2) q
          · have y' : tk3 42 47 37 (bH tp n (adS (bH tp n r.2.1) (X (r.2.1 + 1) r.2.2)).2.1) = false := y
            rw [y'] at go
            rw [nI_1]
            exact go _ (by omega) (by have := ok.2.2.1; omega) ok.1 ok.2.1 hM3 hC2 q
  have s0 := st_ok hX hp0 hl0
  refine v47_0 (hT d p cd M0 _ (by omega) hC0 hp0 hl0 (fun M1 hM1 hC1 => ⟨rfl, brK_b (fun z => ?_) (fun z => ?_)⟩))
  · have go := l 120 0 (X p cd) M1 rfl (Nat.zero_le _) s0.1 s0.2 hM1
    unfold sgR' plR at go
    rw [z] at go ⊢
    exact go hC1 q
  · have go := l 120 0 (X p cd)
    unfold sgR' plR at go
    rw [z] at go ⊢
    refine k56 (by omega) hn s0.1 hC1 (fun y => ⟨rfl, ?_⟩) (fun y => ⟨rfl, ?_⟩)
    · rw [y] at go
      exact go _ rfl (Nat.zero_le _) s0.1 s0.2 (agr_t hM1 frl7) (CS_p hC1) q
    · rw [y] at go
      exact go _ rfl (Nat.zero_le _) s0.1 s0.2 hM1 hC1 q
theorem T46 (hn : n ≤ 120) (hX : PFok n X) (hT : CTX b tp n X 47 d0 [.ref 7, .int o, U, U, U]) (hd0 : 4 ≤ d0) : CTX b tp n (binL (bH tp n) (tk3 43 45 45) 120 X) 46 (d0 + 1) [.ref 7, .int o, U, U, U] := by
  intro d p cd M0 f hd hC0 hp0 hl0 q
  obtain ⟨d, rfl⟩ := ex1 (e := d0) hd
  have nz : ∀ c, tk3 43 45 45 c = true → c ≠ 0 := fun c h => tk3_0 (by decide) (by decide) (by decide) h
  have l : ∀ m i (r : PR) (M : M2), i + m = 120 → i ≤ r.2.1 → r.2.1 ≤ n → r.2.2.length ≤ r.2.1 → agr (frl b) M0 M → CS b tp n M (plR (tk3 43 45 45) (bH tp n) r) r.2.2 → (∀ M', agr (frl b) M0 M' → CS b tp n M' (loopP (bH tp n) (tk3 43 45 45) X m r).2.1 (loopP (bH tp n) (tk3 43 45 45) X m r).2.2 → f (bI (loopP (bH tp n) (tk3 43 45 45) X m r).1) (FR b, M')) → WP (d + 1) 107 46 28 [.ref 7, .int o, .int (bI r.1), .int (sgR' (tk3 43 45 45) (bH tp n) r), .int (nI i)] [] 107 (FR b, M) (rI f) := by
    intro m
    induction m with
    | zero =>
      intro i r M hi hip hp hl hM hC q
      have : i = 120 := by omega
      subst this
      have : plR (tk3 43 45 45) (bH tp n) r = r.2.1 := by
        unfold plR
        rw [bHok r.2.1 (by omega), show tk3 43 45 45 (-1) = false from rfl, Bool.and_false]
        rfl
      rw [this] at hC
      exact v46_28 (brK_t (by decide) (iK_b (q M hM hC)))
    | succ m ih =>
      intro i r M hi hip hp hl hM hC q
      refine v46_28 (brK_f (by rw [show (120 : Int32) = nI 120 from rfl, nI_leI (by decide) (by omega)]; omega) ?_)
      unfold loopP at q
      unfold sgR'
      unfold plR at hC
      cases ht : (r.1 && tk3 43 45 45 (bH tp n r.2.1)) with
      | false =>
        rw [ht] at q hC
        exact brK_t rfl (iK_b (q M hM hC))
      | true =>
        rw [ht] at q hC
        have ht2 := (Bool.and_eq_true _ _ ▸ ht).2
        have hlt := (tk3_b (B := bH tp n) bHok (a := 43) (e := 45) (i := 45) rfl rfl rfl (by decide) (by decide) (by decide) _ ht2).1
        have ok := ads_ok (c := bH tp n r.2.1) hX hlt hl
        refine brK_f (nz _ ht2) (hT d (r.2.1 + 1) r.2.2 M _ (by omega) hC hlt (by omega) (fun M1 hM1 hC1 => ⟨rfl, oK_i (dfK b).2.1 (dfK b).1 (k52 (by omega) hC1 (by have := ok.1; have : (X (r.2.1 + 1) r.2.2).2.1 ≤ n := ok.1; omega) (fun M2' hM2 hC2 => ⟨rfl, ?_⟩))⟩))
        have hM3 := agr_t hM (agr_t hM1 hM2)
        refine brK_b (fun z => ?_) (fun z => ?_)
        · have go := ih (i + 1) (adS (bH tp n r.2.1) (X (r.2.1 + 1) r.2.2)) M2' (by omega) (by have := ok.2.2.1; omega) ok.1 ok.2.1 hM3
          unfold sgR' plR at go
          rw [show (adS (bH tp n r.2.1) (X (r.2.1 + 1) r.2.2)).1 = false from z] at go
          rw [show (X (r.2.1 + 1) r.2.2).1 = false from z, nI_1]
          exact go hC2 q
        · have go := ih (i + 1) (adS (bH tp n r.2.1) (X (r.2.1 + 1) r.2.2)) 
          unfold sgR' plR at go
          rw [show (adS (bH tp n r.2.1) (X (r.2.1 + 1) r.2.2)).1 = true from z] at go
          rw [show (X (r.2.1 + 1) r.2.2).1 = true from z]
          refine k56 (by omega) hn ok.1 hC2 (fun y => ⟨rfl, ?_⟩) (fun y => ⟨rfl, ?_⟩)
          · have y' : tk3 43 45 45 (bH tp n (adS (bH tp n r.2.1) (X (r.2.1 + 1) r.2.2)).2.1) = true := y
            rw [y'] at go
            rw [nI_1]
            exact go _ (by omega) (by have := ok.2.2.1; omega) ok.1 ok.2.1 (agr_t hM3 frl7) (CS_p hC2) q
          · have y' : tk3 43 45 45 (bH tp n (adS (bH tp n r.2.1) (X (r.2.1 + 1) r.2.2)).2.1) = false := y
            rw [y'] at go
            rw [nI_1]
            exact go _ (by omega) (by have := ok.2.2.1; omega) ok.1 ok.2.1 hM3 hC2 q
  have s0 := st_ok hX hp0 hl0
  refine v46_0 (hT d p cd M0 _ (by omega) hC0 hp0 hl0 (fun M1 hM1 hC1 => ⟨rfl, brK_b (fun z => ?_) (fun z => ?_)⟩))
  · have go := l 120 0 (X p cd) M1 rfl (Nat.zero_le _) s0.1 s0.2 hM1
    unfold sgR' plR at go
    rw [z] at go ⊢
    exact go hC1 q
  · have go := l 120 0 (X p cd)
    unfold sgR' plR at go
    rw [z] at go ⊢
    refine k56 (by omega) hn s0.1 hC1 (fun y => ⟨rfl, ?_⟩) (fun y => ⟨rfl, ?_⟩)
    · rw [y] at go
      exact go _ rfl (Nat.zero_le _) s0.1 s0.2 (agr_t hM1 frl7) (CS_p hC1) q
    · rw [y] at go
      exact go _ rfl (Nat.zero_le _) s0.1 s0.2 hM1 hC1 q
theorem T44 (hn : n ≤ 120) (hX : PFok n X) (hT : CTX b tp n X 45 d0 [.ref 7, .int o, U, U]) (hd0 : 4 ≤ d0) : CTX b tp n (binL (bH tp n) (tk1 38) 120 X) 44 (d0 + 1) [.ref 7, .int o, U, U] := by
  intro d p cd M0 f hd hC0 hp0 hl0 q
  obtain ⟨d, rfl⟩ := ex1 (e := d0) hd
  have l : ∀ m i (r : PR) (M : M2), i + m = 120 → r.2.1 ≤ n → r.2.2.length ≤ r.2.1 → agr (frl b) M0 M → CS b tp n M r.2.1 r.2.2 → (∀ M', agr (frl b) M0 M' → CS b tp n M' (loopP (bH tp n) (tk1 38) X m r).2.1 (loopP (bH tp n) (tk1 38) X m r).2.2 → f (bI (loopP (bH tp n) (tk1 38) X m r).1) (FR b, M')) → WP (d + 1) 107 44 8 [.ref 7, .int o, .int (bI r.1), .int (nI i)] [] 107 (FR b, M) (rI f) := by
    intro m
    induction m with
    | zero =>
      intro i r M hi hp hl hM hC q
      have : i = 120 := by omega
      subst this
      exact v44_8 (brK_t (by decide) (iK_b (q M hM hC)))
    | succ m ih =>
      intro i r M hi hp hl hM hC q
      refine v44_8 (brK_f (by rw [show (120 : Int32) = nI 120 from rfl, nI_leI (by decide) (by omega)]; omega) (brK_b (fun z => iK_b ?_) (fun z => k55 (by omega) hn hp hC (fun y => ⟨rfl, brK_f (by decide) ?_⟩) (fun y => ⟨rfl, brK_t rfl (iK_b ?_)⟩))))
      all_goals unfold loopP at q
      · rw [z, Bool.false_and] at q
        rw [z]
        have q := q M hM hC
        rw [show (bif false then loopP (bH tp n) (tk1 38) X m (adS (bH tp n r.2.1) (X (r.2.1 + 1) r.2.2)) else r) = r from rfl, z] at q
        exact q
      · have ht : tk1 38 (bH tp n r.2.1) = true := decide_eq_true y
        rw [z, ht] at q
        have hlt := (tk1_b (B := bH tp n) bHok (a := 38) rfl (by decide) _ ht).1
        have ok := ads_ok (c := bH tp n r.2.1) hX hlt hl
        refine hT d (r.2.1 + 1) r.2.2 _ _ (by omega) (CS_p hC) hlt (by omega) (fun M1 hM1 hC1 => ⟨rfl, oK_i (dfK b).2.1 (dfK b).1 (k52 (by omega) hC1 (by have : (X (r.2.1 + 1) r.2.2).2.1 ≤ n := ok.1; omega) (fun M2' hM2 hC2 => ⟨rfl, ?_⟩))⟩)
        rw [nI_1]
        rw [← y] at hC2
        exact ih (i + 1) (adS (bH tp n r.2.1) (X (r.2.1 + 1) r.2.2)) M2' (by omega) ok.1 ok.2.1 (agr_t hM (agr_t frl7 (agr_t hM1 hM2))) hC2 q
      · have ht : tk1 38 (bH tp n r.2.1) = false := decide_eq_false y
        rw [ht, Bool.and_false] at q
        exact q M hM hC
  have s0 := st_ok hX hp0 hl0
  exact v44_0 (hT d p cd M0 _ (by omega) hC0 hp0 hl0 (fun M1 hM1 hC1 => ⟨rfl, l 120 0 (X p cd) M1 rfl s0.1 s0.2 hM1 hC1 q⟩))
theorem T43 (hn : n ≤ 120) (hX : PFok n X) (hT : CTX b tp n X 44 d0 [.ref 7, .int o, U, U]) (hd0 : 4 ≤ d0) : CTX b tp n (binL (bH tp n) (tk1 124) 120 X) 43 (d0 + 1) [.ref 7, .int o, U, U] := by
  intro d p cd M0 f hd hC0 hp0 hl0 q
  obtain ⟨d, rfl⟩ := ex1 (e := d0) hd
  have l : ∀ m i (r : PR) (M : M2), i + m = 120 → r.2.1 ≤ n → r.2.2.length ≤ r.2.1 → agr (frl b) M0 M → CS b tp n M r.2.1 r.2.2 → (∀ M', agr (frl b) M0 M' → CS b tp n M' (loopP (bH tp n) (tk1 124) X m r).2.1 (loopP (bH tp n) (tk1 124) X m r).2.2 → f (bI (loopP (bH tp n) (tk1 124) X m r).1) (FR b, M')) → WP (d + 1) 107 43 8 [.ref 7, .int o, .int (bI r.1), .int (nI i)] [] 107 (FR b, M) (rI f) := by
    intro m
    induction m with
    | zero =>
      intro i r M hi hp hl hM hC q
      have : i = 120 := by omega
      subst this
      exact v43_8 (brK_t (by decide) (iK_b (q M hM hC)))
    | succ m ih =>
      intro i r M hi hp hl hM hC q
      refine v43_8 (brK_f (by rw [show (120 : Int32) = nI 120 from rfl, nI_leI (by decide) (by omega)]; omega) (brK_b (fun z => iK_b ?_) (fun z => k55 (by omega) hn hp hC (fun y => ⟨rfl, brK_f (by decide) ?_⟩) (fun y => ⟨rfl, brK_t rfl (iK_b ?_)⟩))))
      all_goals unfold loopP at q
      · rw [z, Bool.false_and] at q
        rw [z]
        have q := q M hM hC
        rw [show (bif false then loopP (bH tp n) (tk1 124) X m (adS (bH tp n r.2.1) (X (r.2.1 + 1) r.2.2)) else r) = r from rfl, z] at q
        exact q
      · have ht : tk1 124 (bH tp n r.2.1) = true := decide_eq_true y
        rw [z, ht] at q
        have hlt := (tk1_b (B := bH tp n) bHok (a := 124) rfl (by decide) _ ht).1
        have ok := ads_ok (c := bH tp n r.2.1) hX hlt hl
        refine hT d (r.2.1 + 1) r.2.2 _ _ (by omega) (CS_p hC) hlt (by omega) (fun M1 hM1 hC1 => ⟨rfl, oK_i (dfK b).2.1 (dfK b).1 (k52 (by omega) hC1 (by have : (X (r.2.1 + 1) r.2.2).2.1 ≤ n := ok.1; omega) (fun M2' hM2 hC2 => ⟨rfl, ?_⟩))⟩)
        rw [nI_1]
        rw [← y] at hC2
        exact ih (i + 1) (adS (bH tp n r.2.1) (X (r.2.1 + 1) r.2.2)) M2' (by omega) ok.1 ok.2.1 (agr_t hM (agr_t frl7 (agr_t hM1 hM2))) hC2 q
      · have ht : tk1 124 (bH tp n r.2.1) = false := decide_eq_false y
        rw [ht, Bool.and_false] at q
        exact q M hM hC
  have s0 := st_ok hX hp0 hl0
  exact v43_0 (hT d p cd M0 _ (by omega) hC0 hp0 hl0 (fun M1 hM1 hC1 => ⟨rfl, l 120 0 (X p cd) M1 rfl s0.1 s0.2 hM1 hC1 q⟩))
end READ
