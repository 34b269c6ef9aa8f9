section READ2
variable {d : Nat} {b : Bool} {tp : Nat → Int32} {n p : Nat} {cd : LC} {M : M2} {f : Int32 → Mm → Prop} {X : PF} {o : Int32} {d0 : Nat}
theorem T45 (hn : n ≤ 120) (hX : PFok n X) (hT : CTX b tp n X 46 d0 [.ref 7, .int o, U, U, U]) (hd0 : 4 ≤ d0) : CTX b tp n (binL (bH tp n) (tk3 60 61 62) 1 X) 45 (d0 + 1) [.ref 7, .int o, U, U] := by
  intro d p cd M0 f hd hC0 hp0 hl0 q
  obtain ⟨d, rfl⟩ := ex1 (e := d0) hd
  have s0 := st_ok hX hp0 hl0
  unfold binL loopP at q
  refine v45_0 (hT d p cd M0 _ (by omega) hC0 hp0 hl0 (fun M1 hM1 hC1 => ⟨rfl, brK_b (fun z => ?_) (fun z => k56 (by omega) hn s0.1 hC1 (fun y => ⟨rfl, ?_⟩) (fun y => ⟨rfl, brK_t rfl ?_⟩))⟩))
  · rw [z, Bool.false_and] at q
    have q := q M1 hM1 hC1
    rw [show (bif false then loopP (bH tp n) (tk3 60 61 62) X 0 (adS (bH tp n (X p cd).2.1) (X ((X p cd).2.1 + 1) (X p cd).2.2)) else X p cd) = X p cd from rfl, z] at q
    exact q
  · rw [z, y] at q
    have hlt := (tk3_b (B := bH tp n) bHok (a := 60) (e := 61) (i := 62) rfl rfl rfl (by decide) (by decide) (by decide) _ y).1
    have ok := ads_ok (r := X p cd) (c := bH tp n (X p cd).2.1) hX hlt s0.2
    have := s0.2
    refine brK_f (tk3_0 (by decide) (by decide) (by decide) y) (hT d ((X p cd).2.1 + 1) (X p cd).2.2 _ _ (by omega) (CS_p hC1) hlt (by omega) (fun M2' hM2 hC2 => ⟨rfl, oK_i (dfK b).2.1 (dfK b).1 (k52 (by omega) hC2 (by have : (X ((X p cd).2.1 + 1) (X p cd).2.2).2.1 ≤ n := ok.1; omega) (fun M3 hM3 hC3 => ⟨rfl, iK_b (q M3 (agr_t hM1 (agr_t frl7 (agr_t hM2 hM3))) hC3)⟩))⟩))
  · rw [z, y] at q
    have q := q M1 hM1 hC1
    rw [show (bif true && false then loopP (bH tp n) (tk3 60 61 62) X 0 (adS (bH tp n (X p cd).2.1) (X ((X p cd).2.1 + 1) (X p cd).2.2)) else X p cd) = X p cd from rfl, z] at q
    exact q
theorem TEi (hn : n ≤ 120) (hX : PFok n X) (hT : CTX b tp n X 48 d0 [.ref 7, .int o, U]) (hd0 : 4 ≤ d0) : CTX b tp n (eiP (bH tp n) X) 43 (d0 + 5) [.ref 7, .int o, U, U] :=
  T43 hn (boP_ok bHok hX) (T44 hn (coP_ok bHok hX) (T45 hn (suP_ok bHok hX) (T46 hn (prP_ok bHok hX) (T47 hn hX hT (by omega)) (by omega)) (by omega)) (by omega)) (by omega)
/-- a number -/
theorem k51 {g : Mm → Prop} (hn : n ≤ 120) (hd : 5 ≤ d) (hp : p ≤ n) (hC : CS b tp n M p cd) (hl : cd.length < 120) (k : ∀ M', agr (frl b) M M' → CS b tp n M' (nbP (bH tp n) 4 p 0).1 (cd ++ [1000 + (nbP (bH tp n) 4 p 0).2]) → g (FR b, M')) : WP d 107 51 0 [.ref 7, U, U] [] 107 (FR b, M) (rV g) := by
  obtain ⟨d, rfl⟩ := ex1 (e := 4) hd
  have l : ∀ m i p v (M1 : M2), i + m = 4 → p ≤ n → agr (frl b) M M1 → CS b tp n M1 p cd → (∀ M', agr (frl b) M M' → CS b tp n M' (nbP (bH tp n) m p v).1 (cd ++ [1000 + (nbP (bH tp n) m p v).2]) → g (FR b, M')) → WP (d + 1) 107 51 4 [.ref 7, .int v, .int (nI i)] [] 107 (FR b, M1) (rV g) := by
    intro m
    induction m with
    | zero =>
      intro i p v M1 hi hp hM hC q
      have : i = 4 := by omega
      subst this
      exact v51_4 (brK_t (by decide) (oK_i (dfK b).2.1 (dfK b).1 (k52 (by omega) hC hl (fun M' hM' hC' => ⟨rfl, q M' (agr_t hM hM') hC'⟩))))
    | succ m ih =>
      intro i p v M1 hi hp hM hC q
      unfold nbP at q
      refine v51_4 (brK_f (by rw [show (4 : Int32) = nI 4 from rfl, nI_leI (by decide) (by omega)]; omega) (k49 (by omega) hn hp hC ⟨rfl, k50 (by omega) ⟨rfl, brK_b (fun z => ?_) (fun z => ?_)⟩⟩))
      · rw [z] at q
        exact oK_i (dfK b).2.1 (dfK b).1 (k52 (by omega) hC hl (fun M' hM' hC' => ⟨rfl, q M' (agr_t hM hM') hC'⟩))
      · rw [z] at q
        refine k49 (by omega) hn hp hC ⟨rfl, ?_⟩
        dsimp only
        rw [hC.2.2.1, nI_1, nI_1]
        exact ih (i + 1) (p + 1) _ _ (by omega) (dg_n bHok z) (agr_t hM frl7) (CS_p hC) q
  exact v51_0 (l 4 0 p 0 M rfl hp (agr_r M) hC k)
theorem k54 (hn : n ≤ 120) (hX : PFok n X) (hd0 : 4 ≤ d0) (hT : CTX b tp n X 48 d0 [.ref 7, .int o, U]) (hd : d0 + 6 ≤ d) (hC : CS b tp n M p cd) (hp : p ≤ n) (hl : cd.length ≤ p) (k : ∀ M', agr (frl b) M M' → CS b tp n M' (nsP (bH tp n) X p cd).2.1 (nsP (bH tp n) X p cd).2.2 → f (bI (nsP (bH tp n) X p cd).1) (FR b, M')) : WP d 107 54 0 [.ref 7, .int (bH tp n p), .int o, U] [] 107 (FR b, M) (rI f) := by
  obtain ⟨d, rfl⟩ := ex1 (e := d0 + 5) hd
  unfold nsP at k
  refine v54_0 (brK_d (fun h => v54_20 ?_) (fun h => brK_d (fun h2 => v54_20 ?_) (fun h2 => brK_d (fun h3 => v54_20 ?_) (fun h3 => ?_))))
  · have h' := of_decide_eq_true h
    have hlt := Bn (B := bH tp n) bHok h' (by decide)
    rw [h] at k
    have k : ∀ M', agr (frl b) M M' → CS b tp n M' (clP (bH tp n) (eiP (bH tp n) X (p + 1) cd)).2.1 (clP (bH tp n) (eiP (bH tp n) X (p + 1) cd)).2.2 → f (bI (clP (bH tp n) (eiP (bH tp n) X (p + 1) cd)).1) (FR b, M') := k
    unfold clP at k
    have s0 := st_ok (X := eiP (bH tp n) X) (cd := cd) (eiP_ok (B := bH tp n) bHok hX) hlt (show cd.length ≤ p + 1 by omega)
    refine brK_t h' ?_
    rw [hC.2.2.1, nI_1]
    refine TEi hn hX hT hd0 d (p + 1) cd _ _ (by omega) (CS_p hC) hlt (by omega) (fun M1 hM1 hC1 => ⟨rfl, brK_b (fun z => ?_) (fun z => k55 (by omega) hn s0.1 hC1 (fun y => ⟨rfl, brK_f (by decide) ?_⟩) (fun y => ⟨rfl, brK_t rfl ?_⟩))⟩)
    · rw [z, Bool.false_and] at k
      exact k M1 (agr_t frl7 hM1) hC1
    · rw [z, decide_eq_true y] at k
      exact k _ (agr_t frl7 (agr_t hM1 frl7)) (CS_p hC1)
    · rw [z, decide_eq_false y] at k
      exact k M1 (agr_t frl7 hM1) hC1
  · have h' := of_decide_eq_true h2
    have hlt := Bn (B := bH tp n) bHok h' (by decide)
    rw [h, h2] at k
    have k : ∀ M', agr (frl b) M M' → CS b tp n M' (adS 33 (X (p + 1) cd)).2.1 (adS 33 (X (p + 1) cd)).2.2 → f (bI (adS 33 (X (p + 1) cd)).1) (FR b, M') := k
    have s0 := st_ok (cd := cd) hX hlt (show cd.length ≤ p + 1 by omega)
    obtain ⟨seg, h1, _, h4, h5, _⟩ := hX (p + 1) cd hlt
    have hlen : (X (p + 1) cd).2.2.length < 120 := by rw [h1, List.length_append]; omega
    refine brK_f (of_decide_eq_false h) ?_
    rw [hC.2.2.1, nI_1]
    refine hT d (p + 1) cd _ _ (by omega) (CS_p hC) hlt (by omega) (fun M1 hM1 hC1 => ⟨rfl, brK_t h' (oK_i (dfK b).2.1 (dfK b).1 ?_)⟩)
    rw [h']
    exact k52 (by omega) hC1 hlen (fun M2' hM2 hC2 => ⟨rfl, iK_b (k M2' (agr_t frl7 (agr_t hM1 hM2)) hC2)⟩)
  · have h' := of_decide_eq_true h3
    have hlt := Bn (B := bH tp n) bHok h' (by decide)
    rw [h, h2, h3] at k
    have k : ∀ M', agr (frl b) M M' → CS b tp n M' (adS 126 (X (p + 1) cd)).2.1 (adS 126 (X (p + 1) cd)).2.2 → f (bI (adS 126 (X (p + 1) cd)).1) (FR b, M') := k
    obtain ⟨seg, h1, _, h4, h5, _⟩ := hX (p + 1) cd hlt
    have hlen : (X (p + 1) cd).2.2.length < 120 := by rw [h1, List.length_append]; omega
    refine brK_f (of_decide_eq_false h) ?_
    rw [hC.2.2.1, nI_1]
    refine hT d (p + 1) cd _ _ (by omega) (CS_p hC) hlt (by omega) (fun M1 hM1 hC1 => ⟨rfl, brK_f (of_decide_eq_false h2) (oK_i (dfK b).2.1 (dfK b).1 (k52 (by omega) hC1 hlen (fun M2' hM2 hC2 => ⟨rfl, iK_b (k M2' (agr_t frl7 (agr_t hM1 hM2)) hC2)⟩)))⟩)
  · rw [h, h2, h3] at k
    exact k M (agr_r M) hC
theorem T48 (hn : n ≤ 120) : ∀ g, g ≤ 6 → CTX b tp n (opP (bH tp n) g) 48 (8 * g + 7) [.ref 7, .int (nI (6 - g)), U] := by
  have leaf : ∀ (Y : PF) (o : Int32) (d0 : Nat), 6 ≤ d0 → (∀ (d p : Nat) (cd : LC) (M : M2) (f : Int32 → Mm → Prop), d0 ≤ d → CS b tp n M p cd → p ≤ n → cd.length ≤ p → (∀ M', agr (frl b) M M' → CS b tp n M' (Y p cd).2.1 (Y p cd).2.2 → f (bI (Y p cd).1) (FR b, M')) → brK (o < 6) (WP d 107 54 0 [.ref 7, .int (bH tp n p), .int (o + 1), U] [] 107 (FR b, M) (rI (fun v8 N7 => N7.1 = FR b ∧ (iK v8 2 (f v8 (FR b, N7.2)))))) (f 0 (FR b, M))) → CTX b tp n (lfP (bH tp n) Y) 48 (d0 + 1) [.ref 7, .int o, U] := by
    intro Y o d0 h6 hY d p cd M f hd hC hp hl q
    obtain ⟨d, rfl⟩ := ex1 (e := d0) hd
    unfold lfP at q
    refine v48_0 (k49 (by omega) hn hp hC ⟨rfl, k50 (by omega) ⟨rfl, brK_b (fun z => ?_) (fun z => ?_)⟩⟩)
    · rw [z] at q
      refine c53 (by omega) ⟨rfl, brK_b (fun y => ?_) (fun y => oK_i (dfK b).2.1 (dfK b).1 ?_)⟩
      · rw [y] at q
        exact hY d p cd M f (by omega) hC hp hl q
      · rw [y] at q
        have hlt := nm_n (B := bH tp n) bHok y
        dsimp only
        rw [hC.2.2.1, nI_1]
        exact k52 (by omega) (CS_p hC) (by omega) (fun M' hM' hC' => ⟨rfl, q M' (agr_t frl7 hM') hC'⟩)
    · rw [z] at q
      have hlt := dg_n (B := bH tp n) bHok z
      exact k51 hn (by omega) hp hC (by omega) (fun M' hM' hC' => ⟨rfl, q M' hM' hC'⟩)
  intro g
  induction g with
  | zero =>
    intro _
    exact leaf (fun p cd => (false, p, cd)) (nI (6 - 0)) 6 (by omega) (fun d p cd M f hd hC hp hl q => brK_f (by decide) (q M (agr_r M) hC))
  | succ g ih =>
    intro hg
    refine fun d p cd M f hd => leaf (nsP (bH tp n) (opP (bH tp n) g)) (nI (6 - (g + 1))) (8 * g + 14) (by omega) (fun d p cd M f hd hC hp hl q => ?_) d p cd M f (by omega)
    refine brK_t (by rw [show (6 : Int32) = nI 6 from rfl, nI_ltI (by omega) (by decide)]; omega) ?_
    rw [nI_1, show 6 - (g + 1) + 1 = 6 - g by omega]
    exact k54 hn (opP_ok bHok g) (by omega) (ih (by omega)) (by omega) hC hp hl (fun M' hM' hC' => ⟨rfl, iK_b (q M' hM' hC')⟩)
/-! lines -/
abbrev LNS : Type := List (Nat × Nat)
def lsB (ls : LNS) (i : Nat) : Nat × Nat := ls.getD i (0, 0)
def liP (B : Nat → Int32) (E : PF) (p : Nat) (cd : LC) : PR × Nat := bif (E p cd).1 then (bif decide (B (E p cd).2.1 = 63) then (E ((E p cd).2.1 + 1) (E p cd).2.2, (E p cd).2.2.length) else (E p cd, cd.length)) else (E p cd, 0)
def pdP (B : Nat → Int32) (n : Nat) (E : PF) : Nat → Nat → LC → LNS → Bool × Nat × LC × LNS
  | 0, p, cd, ls => (false, p, cd, ls)
  | m + 1, p, cd, ls => bif (liP B E p cd).1.1 then (bif Nat.ble n (liP B E p cd).1.2.1 then (true, (liP B E p cd).1.2.1, (liP B E p cd).1.2.2, ls ++ [((liP B E p cd).2, (liP B E p cd).1.2.2.length)]) else (bif decide (B (liP B E p cd).1.2.1 = 59) then pdP B n E m ((liP B E p cd).1.2.1 + 1) (liP B E p cd).1.2.2 (ls ++ [((liP B E p cd).2, (liP B E p cd).1.2.2.length)]) else (false, (liP B E p cd).1.2.1, (liP B E p cd).1.2.2, ls))) else (false, (liP B E p cd).1.2.1, (liP B E p cd).1.2.2, ls)
def LSK (b : Bool) (M : M2) (ls : LNS) : Prop := gI M (dfC b) 4 = nI ls.length ∧ ∀ i, i < ls.length → gI M (dfC b + 2) i = nI (lsB ls i).1 ∧ gI M (dfC b + 3) i = nI (lsB ls i).2
theorem lsB_l {ls : LNS} {x : Nat × Nat} : ∀ {i : Nat}, i < ls.length → lsB (ls ++ [x]) i = lsB ls i := by
  induction ls with
  | nil => intro j h; exact absurd h (Nat.not_lt_zero _)
  | cons y l ih =>
    intro j h
    cases j with
    | zero => rfl
    | succ j => exact ih (i := j) (Nat.lt_of_succ_lt_succ h)
theorem lsB_e {x : Nat × Nat} : ∀ (ls : LNS), lsB (ls ++ [x]) ls.length = x
  | [] => rfl
  | _ :: l => lsB_e l
theorem LSK_a {M' : M2} {ls : LNS} (h : agr (frl b) M M') (q : LSK b M ls) : LSK b M' ls := by
  have e : frl b (dfC b) 4 = true ∧ (∀ i, frl b (dfC b + 2) i = true) ∧ ∀ i, frl b (dfC b + 3) i = true := by cases b <;> exact ⟨rfl, fun _ => rfl, fun _ => rfl⟩
  exact ⟨(agr_nI h e.1).trans q.1, fun i hi => ⟨(agr_nI h (e.2.1 i)).trans (q.2 i hi).1, (agr_nI h (e.2.2 i)).trans (q.2 i hi).2⟩⟩
def frd (b : Bool) : Nat → Nat → Bool := fun r j => !(Nat.beq r 7 && Nat.beq j 2) && (!Nat.beq r (dfC b) && (!Nat.beq r (dfC b + 1) && (!Nat.beq r (dfC b + 2) && !Nat.beq r (dfC b + 3))))
theorem frl_d {M' : M2} (h : agr (frl b) M M') : agr (frd b) M M' := agr_m (fun r j q => by
  unfold frd at q
  unfold frl
  simp only [Bool.and_eq_true] at q ⊢
  refine ⟨q.1, ?_, q.2.2.1⟩
  have := q.2.1
  cases hb : Nat.beq r (dfC b) with
  | false => rfl
  | true => rw [hb] at this; exact absurd this (by decide)) h
theorem k57 {g : Mm → Prop} {ls : LNS} {a : Nat} (hd : 1 ≤ d) (hC : CS b tp n M p cd) (hL : LSK b M ls) (hl : ls.length < 60) (k : ∀ M', agr (frd b) M M' → CS b tp n M' p cd → LSK b M' (ls ++ [(a, cd.length)]) → g (FR b, M')) : WP d 107 57 0 [.ref (dfC b), .int (nI a)] [] 107 (FR b, M) (rV g) := by
  obtain ⟨d, rfl⟩ := ex1 hd
  have e := dfK b
  have el2 : lenI M (dfC b + 2) = nI 60 := by unfold lenI; rw [e.2.2.2.2.2.1, e.2.2.2.2.2.2.2.1]; rfl
  have el3 : lenI M (dfC b + 3) = nI 60 := by unfold lenI; rw [e.2.2.2.2.2.2.2.2.1, e.2.2.2.2.2.2.2.2.2.2.1]; rfl
  have ec : ix (nI ls.length) = ls.length := ix_n (by omega)
  have ne : dfC b ≠ dfC b + 2 ∧ dfC b ≠ dfC b + 3 ∧ dfC b + 2 ≠ dfC b + 3 ∧ dfC b + 3 ≠ dfC b ∧ dfC b + 2 ≠ dfC b ∧ dfC b + 1 ≠ dfC b ∧ dfC b + 1 ≠ dfC b + 2 ∧ dfC b + 1 ≠ dfC b + 3 := ⟨by omega, by omega, by omega, by omega, by omega, by omega, by omega, by omega⟩
  have n7 : 7 ≠ dfC b ∧ 7 ≠ dfC b + 2 ∧ 7 ≠ dfC b + 3 ∧ 8 ≠ dfC b ∧ 8 ≠ dfC b + 2 ∧ 8 ≠ dfC b + 3 := (show ∀ b, 7 ≠ dfC b ∧ 7 ≠ dfC b + 2 ∧ 7 ≠ dfC b + 3 ∧ 8 ≠ dfC b ∧ 8 ≠ dfC b + 2 ∧ 8 ≠ dfC b + 3 by decide) b
  have rd2 : ∀ {P : Prop}, P → rdN 107 (dfC b + 2) P := fun h => rdN_i e.2.2.2.2.2.2.1 (by rw [e.2.2.2.2.2.1]; decide) h
  have rd3 : ∀ {P : Prop}, P → rdN 107 (dfC b + 3) P := fun h => rdN_i e.2.2.2.2.2.2.2.2.2.1 (by rw [e.2.2.2.2.2.2.2.2.1]; decide) h
  have F1 := e.2.2.2.2.2.2.2.2.2.2.2.2.1
  have F2 := e.2.2.2.2.2.2.2.2.2.2.2.2.2
  refine v57_0 (oK_i e.2.1 e.1 (oK_i e.2.1 e.1 (rK_i F1 (rd2 ?_))))
  rw [el2, hL.1]
  refine brK_f (by rw [nI_leI (by decide) (by omega)]; omega) (oK_i e.2.1 e.1 (oK_i e.2.1 e.1 (rK_i F2 (rd3 ?_))))
  rw [el3]
  refine brK_f (by rw [nI_leI (by decide) (by omega)]; omega) (oK_i e.2.1 e.1 (rK_i F1 (oK_i e.2.1 e.1 (oK_i e.2.2.2.2.2.2.1 e.2.2.2.2.2.1 (iK_i (by rw [ec, e.2.2.2.2.2.2.2.1]; exact hl) (oK_i e.2.1 e.1 (rK_i F2 (oK_i e.2.1 e.1 (oK_i e.2.1 e.1 (oK_i e.2.2.2.2.2.2.2.2.2.1 e.2.2.2.2.2.2.2.2.1 ?_))))))))))
  rw [ec, gI_or ne.1, hL.1, gI_or ne.1, hC.2.2.2.1]
  refine iK_i (by rw [ec, e.2.2.2.2.2.2.2.2.2.2.1]; exact hl) (oK_i e.2.1 e.1 (oK_i e.2.1 e.1 ?_))
  rw [ec, sF_eq, gI_or ne.2.1, gI_or ne.1, hL.1, nI_1]
  refine k _ (agr_sI (by cases b <;> simp [frd]) (agr_sI (by cases b <;> simp [frd]) (agr_sI (by cases b <;> simp [frd]) (agr_r M)))) ⟨?_, fun j => ?_, ?_, ?_, fun j hj => ?_⟩ ⟨?_, fun i hi => ?_⟩
  · rw [gI_or n7.1, gI_or n7.2.2.1, gI_or n7.2.1]; exact hC.1
  · rw [gI_or n7.2.2.2.1, gI_or n7.2.2.2.2.2, gI_or n7.2.2.2.2.1]; exact hC.2.1 j
  · rw [gI_or n7.1, gI_or n7.2.2.1, gI_or n7.2.1]; exact hC.2.2.1
  · rw [gI_oj (by decide), gI_or ne.2.1, gI_or ne.1]; exact hC.2.2.2.1
  · rw [gI_or ne.2.2.2.2.2.1, gI_or ne.2.2.2.2.2.2.2, gI_or ne.2.2.2.2.2.2.1]; exact hC.2.2.2.2 j hj
  · rw [gI_s, List.length_append]; rfl
  · rw [List.length_append] at hi
    have hi : i < ls.length + 1 := hi
    rw [gI_or ne.2.2.2.2.1, gI_or ne.2.2.1, gI_or ne.2.2.2.1]
    by_cases q : i = ls.length
    · subst q
      rw [gI_s, gI_s, lsB_e]
      exact ⟨rfl, rfl⟩
    · rw [gI_oj q, gI_oj q, gI_or (fun e => ne.2.2.1 e.symm), lsB_l (by omega)]
      exact hL.2 i (by omega)
end READ2
