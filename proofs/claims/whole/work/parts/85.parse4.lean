section READ3
variable {d : Nat} {b : Bool} {tp : Nat → Int32} {n p : Nat} {cd : LC} {M : M2} {f : Int32 → Mm → Prop} {E : PF}
theorem k42 {ls : LNS} (hn : n ≤ 120) (hX : PFok n E) (hT : CTX b tp n E 43 60 [.ref 7, .int 0, U, U]) (hd : 61 ≤ d) (hC : CS b tp n M p cd) (hp : p ≤ n) (hl : cd.length ≤ p) (hL : LSK b M ls) (hll : ls.length < 60) (k : ∀ M', agr (frd b) M M' → CS b tp n M' (liP (bH tp n) E p cd).1.2.1 (liP (bH tp n) E p cd).1.2.2 → ((liP (bH tp n) E p cd).1.1 = true → LSK b M' (ls ++ [((liP (bH tp n) E p cd).2, (liP (bH tp n) E p cd).1.2.2.length)])) → f (bI (liP (bH tp n) E p cd).1.1) (FR b, M')) : WP d 107 42 0 [.ref 7, U] [] 107 (FR b, M) (rI f) := by
  obtain ⟨d, rfl⟩ := ex1 (e := 60) hd
  have o := dfK b
  have s0 := st_ok (cd := cd) hX hp hl
  unfold liP at k
  refine v42_0 (oK_i o.2.1 o.1 (hT d p cd M _ (by omega) hC hp hl (fun M1 hM1 hC1 => ⟨rfl, brK_b (fun z => ?_) (fun z => k55 (by omega) hn s0.1 hC1 (fun y => ⟨rfl, brK_f (by decide) (oK_i o.2.1 o.1 ?_)⟩) (fun y => ⟨rfl, brK_t rfl (oK_i o.2.1 o.1 ?_)⟩))⟩)))
  · rw [z] at k
    have k := k M1 (frl_d hM1) hC1
    rw [show (bif false then (bif decide (bH tp n (E p cd).2.1 = 63) then (E ((E p cd).2.1 + 1) (E p cd).2.2, (E p cd).2.2.length) else (E p cd, cd.length)) else (E p cd, 0)) = (E p cd, 0) from rfl] at k
    rw [show ((E p cd, 0) : PR × Nat).1.1 = false from z] at k
    exact k (fun q => Bool.noConfusion q)
  · rw [z, decide_eq_true y] at k
    have k : ∀ M', agr (frd b) M M' → CS b tp n M' (E ((E p cd).2.1 + 1) (E p cd).2.2).2.1 (E ((E p cd).2.1 + 1) (E p cd).2.2).2.2 → ((E ((E p cd).2.1 + 1) (E p cd).2.2).1 = true → LSK b M' (ls ++ [((E p cd).2.2.length, (E ((E p cd).2.1 + 1) (E p cd).2.2).2.2.length)])) → f (bI (E ((E p cd).2.1 + 1) (E p cd).2.2).1) (FR b, M') := k
    have hlt := Bn (B := bH tp n) bHok y (by decide)
    have hC2 := CS_p (p' := (E p cd).2.1 + 1) hC1
    dsimp only
    rw [hC2.2.2.2.1]
    refine hT d _ _ _ _ (by omega) hC2 hlt (by omega) (fun M2' hM2 hC3 => ⟨rfl, brK_b (fun x => ?_) (fun x => oK_i o.2.1 o.1 ?_)⟩)
    · rw [x] at k
      exact k M2' (frl_d (agr_t hM1 (agr_t frl7 hM2))) hC3 (fun q => Bool.noConfusion q)
    · rw [x] at k
      refine k57 (by omega) hC3 (LSK_a (agr_t hM1 (agr_t frl7 hM2)) hL) hll (fun M3 hM3 hC4 hL4 => ⟨rfl, k M3 (agr_t (frl_d (agr_t hM1 (agr_t frl7 hM2))) hM3) hC4 (fun _ => hL4)⟩)
  · rw [z, decide_eq_false y] at k
    have k : ∀ M', agr (frd b) M M' → CS b tp n M' (E p cd).2.1 (E p cd).2.2 → ((E p cd).1 = true → LSK b M' (ls ++ [(cd.length, (E p cd).2.2.length)])) → f (bI (E p cd).1) (FR b, M') := k
    rw [z] at k
    rw [hC.2.2.2.1]
    exact k57 (by omega) hC1 (LSK_a hM1 hL) hll (fun M3 hM3 hC4 hL4 => ⟨rfl, k M3 (agr_t (frl_d hM1) hM3) hC4 (fun _ => hL4)⟩)
theorem li_ok (hX : PFok n E) (hp : p ≤ n) (hl : cd.length ≤ p) : (liP (bH tp n) E p cd).1.2.1 ≤ n ∧ (liP (bH tp n) E p cd).1.2.2.length ≤ (liP (bH tp n) E p cd).1.2.1 := by
  have s0 := st_ok (cd := cd) hX hp hl
  unfold liP
  cases z : (E p cd).1 with
  | false => exact s0
  | true =>
    cases y : decide (bH tp n (E p cd).2.1 = 63) with
    | false => exact s0
    | true =>
      have hlt := Bn (B := bH tp n) bHok (of_decide_eq_true y) (by decide)
      exact st_ok (cd := (E p cd).2.2) hX hlt (by omega)
theorem k40 (hn : n ≤ 120) (hX : PFok n E) (hT : CTX b tp n E 43 60 [.ref 7, .int 0, U, U]) (hd : 61 ≤ d) {M0 : M2} : ∀ m p cd ls (M : M2), ls.length + m = 60 → CS b tp n M p cd → p ≤ n → cd.length ≤ p → LSK b M ls → agr (frd b) M0 M → (∀ M', agr (frd b) M0 M' → CS b tp n M' (pdP (bH tp n) n E m p cd ls).2.1 (pdP (bH tp n) n E m p cd ls).2.2.1 → ((pdP (bH tp n) n E m p cd ls).1 = true → LSK b M' (pdP (bH tp n) n E m p cd ls).2.2.2) → f (bI (pdP (bH tp n) n E m p cd ls).1) (FR b, M')) → WP (d + 1) 107 40 14 [.ref 7, .int (nI ls.length)] [] 107 (FR b, M) (rI f) := by
  intro m
  induction m with
  | zero =>
    intro p cd ls M hm hC hp hl hL hM q
    have : ls.length = 60 := by omega
    rw [this]
    exact v40_14 (brK_t (by decide) (q M hM hC (fun z => Bool.noConfusion z)))
  | succ m ih =>
    intro p cd ls M hm hC hp hl hL hM q
    have lo := li_ok (tp := tp) (cd := cd) hX hp hl
    unfold pdP at q
    refine v40_14 (brK_f (by rw [show (60 : Int32) = nI 60 from rfl, nI_leI (by decide) (by omega)]; omega) (k42 hn hX hT (by omega) hC hp hl hL (by omega) (fun M1 hM1 hC1 hL1 => ⟨rfl, brK_b (fun z => ?_) (fun z => ?_)⟩)))
    · rw [z] at q
      exact q M1 (agr_t hM hM1) hC1 (fun z => Bool.noConfusion z)
    · rw [z] at q
      dsimp only
      rw [hC1.2.2.1, hC1.1]
      refine ⟨fun y => ?_, fun y => ?_⟩
      · rw [nI_ltI (by omega) (by omega)] at y
        rw [ble_f (by omega)] at q
        refine k55 (by omega) hn lo.1 hC1 (fun x => ⟨rfl, brK_f (by decide) ?_⟩) (fun x => ⟨rfl, brK_t rfl ?_⟩)
        · rw [decide_eq_true x] at q
          have := ih ((liP (bH tp n) E p cd).1.2.1 + 1) (liP (bH tp n) E p cd).1.2.2 (ls ++ [((liP (bH tp n) E p cd).2, (liP (bH tp n) E p cd).1.2.2.length)]) (sI M1 7 2 (nI ((liP (bH tp n) E p cd).1.2.1 + 1))) (by rw [List.length_append, List.length_cons, List.length_nil]; omega) (CS_p hC1) (by omega) (by omega) (LSK_a frl7 (hL1 z)) (agr_t hM (agr_t hM1 (frl_d frl7))) q
          rw [List.length_append] at this
          rw [nI_1]
          exact this
        · rw [decide_eq_false x] at q
          exact q M1 (agr_t hM hM1) hC1 (fun z => Bool.noConfusion z)
      · rw [nI_ltI (by omega) (by omega)] at y
        rw [ble_t (by omega)] at q
        exact q M1 (agr_t hM hM1) hC1 (fun _ => hL1 z)
/-- the law's program as read -/
def EE (tp : Nat → Int32) (n : Nat) : PF := eiP (bH tp n) (opP (bH tp n) 6)
def RD (tp : Nat → Int32) (n : Nat) : Bool × Nat × LC × LNS := pdP (bH tp n) n (EE tp n) 60 0 [] []
theorem EEok (tp : Nat → Int32) (n : Nat) : PFok n (EE tp n) := eiP_ok bHok (opP_ok bHok 6)
def LV1 (cd : LC) (s a e : Nat) : Prop := ∃ pre s1 s2 post : LC, cd = pre ++ (s1 ++ (s2 ++ post)) ∧ pre.length = s ∧ s + s1.length = a ∧ a + s2.length = e ∧ (s1 = [] ∨ HRL s1) ∧ HRL s2
def stN (ls : LNS) : Nat → Nat
  | 0 => 0
  | i + 1 => (lsB ls i).2
def LVd (cd : LC) (ls : LNS) : Prop := cd.length = stN ls ls.length ∧ ∀ i, i < ls.length → LV1 cd (stN ls i) (lsB ls i).1 (lsB ls i).2
theorem li_seg (hX : PFok n E) (hp : p ≤ n) (hl : cd.length ≤ p) (h : (liP (bH tp n) E p cd).1.1 = true) : ∃ s1 s2 : LC, (liP (bH tp n) E p cd).1.2.2 = cd ++ (s1 ++ s2) ∧ (liP (bH tp n) E p cd).2 = cd.length + s1.length ∧ (s1 = [] ∨ HRL s1) ∧ HRL s2 := by
  obtain ⟨seg, h1, h2, h3, h4, h5⟩ := hX p cd hp
  unfold liP at h ⊢
  cases z : (E p cd).1 with
  | false => rw [z] at h; exact Bool.noConfusion (show false = true from z ▸ h)
  | true =>
    rw [z] at h
    cases y : decide (bH tp n (E p cd).2.1 = 63) with
    | false => exact ⟨[], seg, h1, rfl, Or.inl rfl, h5 z⟩
    | true =>
      rw [y] at h
      have hlt := Bn (B := bH tp n) bHok (of_decide_eq_true y) (by decide)
      obtain ⟨sg, k1, k2, k3, k4, k5⟩ := hX ((E p cd).2.1 + 1) (E p cd).2.2 hlt
      refine ⟨seg, sg, ?_, ?_, Or.inr (h5 z), k5 h⟩
      · show (E ((E p cd).2.1 + 1) (E p cd).2.2).2.2 = _
        rw [k1, h1, List.append_assoc]
      · show (E p cd).2.2.length = _
        rw [h1, List.length_append]
theorem pd_ok (hX : PFok n E) : ∀ m p cd (ls : LNS), p ≤ n → cd.length ≤ p → LVd cd ls → ls.length + m ≤ 60 → (pdP (bH tp n) n E m p cd ls).2.1 ≤ n ∧ (pdP (bH tp n) n E m p cd ls).2.2.1.length ≤ (pdP (bH tp n) n E m p cd ls).2.1 ∧ ((pdP (bH tp n) n E m p cd ls).1 = true → LVd (pdP (bH tp n) n E m p cd ls).2.2.1 (pdP (bH tp n) n E m p cd ls).2.2.2 ∧ 1 ≤ (pdP (bH tp n) n E m p cd ls).2.2.2.length ∧ (pdP (bH tp n) n E m p cd ls).2.2.2.length ≤ 60) := by
  intro m
  induction m with
  | zero => intro p cd ls hp hl hv hm; exact ⟨hp, hl, fun q => Bool.noConfusion q⟩
  | succ m ih =>
    intro p cd ls hp hl hv hm
    have lo := li_ok (tp := tp) (cd := cd) hX hp hl
    have sg := li_seg (tp := tp) (cd := cd) hX hp hl
    unfold pdP
    cases z : (liP (bH tp n) E p cd).1.1 with
    | false => exact ⟨lo.1, lo.2, fun q => Bool.noConfusion q⟩
    | true =>
      obtain ⟨s1, s2, e1, e2, e3, e4⟩ := sg z
      have hv2 : LVd (liP (bH tp n) E p cd).1.2.2 (ls ++ [((liP (bH tp n) E p cd).2, (liP (bH tp n) E p cd).1.2.2.length)]) := by
        refine ⟨?_, fun i hi => ?_⟩
        · rw [List.length_append, List.length_cons, List.length_nil]
          show _ = (lsB (ls ++ [_]) ls.length).2
          rw [lsB_e]
        · rw [List.length_append] at hi
          have hi : i < ls.length + 1 := hi
          have st : ∀ i, i ≤ ls.length → stN (ls ++ [((liP (bH tp n) E p cd).2, (liP (bH tp n) E p cd).1.2.2.length)]) i = stN ls i := by
            intro i hi
            cases i with
            | zero => rfl
            | succ i => show (lsB (ls ++ [_]) i).2 = _; rw [lsB_l (by omega)]; rfl
          rw [st i (by omega)]
          by_cases q : i = ls.length
          · subst q
            rw [lsB_e]
            exact ⟨cd, s1, s2, [], by rw [e1, List.append_nil], hv.1, by rw [← hv.1]; exact e2.symm, by
              show (liP (bH tp n) E p cd).2 + s2.length = (liP (bH tp n) E p cd).1.2.2.length
              rw [e1, e2, List.length_append, List.length_append]; omega, e3, e4⟩
          · rw [lsB_l (by omega)]
            obtain ⟨pre, t1, t2, post, g1, g2, g3, g4, g5, g6⟩ := hv.2 i (by omega)
            exact ⟨pre, t1, t2, post ++ (s1 ++ s2), by rw [e1, g1]; simp only [List.append_assoc], g2, g3, g4, g5, g6⟩
      cases y : Nat.ble n (liP (bH tp n) E p cd).1.2.1 with
      | true => exact ⟨lo.1, lo.2, fun _ => ⟨hv2, by show 1 ≤ (ls ++ [_]).length; rw [List.length_append, List.length_cons, List.length_nil]; omega, by show (ls ++ [_]).length ≤ 60; rw [List.length_append, List.length_cons, List.length_nil]; omega⟩⟩
      | false =>
        cases x : decide (bH tp n (liP (bH tp n) E p cd).1.2.1 = 59) with
        | false => exact ⟨lo.1, lo.2, fun q => Bool.noConfusion q⟩
        | true =>
          have hlt := Bn (B := bH tp n) bHok (of_decide_eq_true x) (by decide)
          exact ih _ _ _ hlt (by omega) hv2 (by rw [List.length_append, List.length_cons, List.length_nil]; omega)
theorem RD_ok : (RD tp n).2.1 ≤ n ∧ (RD tp n).2.2.1.length ≤ (RD tp n).2.1 ∧ ((RD tp n).1 = true → LVd (RD tp n).2.2.1 (RD tp n).2.2.2 ∧ 1 ≤ (RD tp n).2.2.2.length ∧ (RD tp n).2.2.2.length ≤ 60) :=
  pd_ok (EEok tp n) 60 0 [] [] (Nat.zero_le _) (Nat.le_refl _) ⟨rfl, fun i hi => absurd hi (Nat.not_lt_zero _)⟩ (Nat.le_refl _)
theorem FRx (b : Bool) : uR (uR (FR b) 7 3 (some (bif b then 9 else 13))) 7 4 (some (bif b then 13 else 9)) = FR (!b) := by
  funext a j
  unfold uR
  by_cases h : a = 7
  · subst h
    by_cases h4 : j = 4
    · subst h4; cases b <;> rfl
    · rw [if_neg (fun q => h4 q.2)]
      by_cases h3 : j = 3
      · subst h3; cases b <;> rfl
      · rw [if_neg (fun q => h3 q.2)]
        have : j = 0 ∨ j = 1 ∨ j = 2 ∨ ∃ e, j = e + 5 := by
          rcases Nat.lt_or_ge j 5 with q | q
          · omega
          · exact Or.inr (Or.inr (Or.inr ⟨j - 5, by omega⟩))
        rcases this with q | q | q | ⟨e, q⟩
        · subst q; cases b <;> rfl
        · subst q; cases b <;> rfl
        · subst q; cases b <;> rfl
        · subst q; cases b <;> rfl
  · rw [if_neg (fun q => h q.1), if_neg (fun q => h q.1)]
    by_cases h8 : a < 8
    · have : a = 0 ∨ a = 1 ∨ a = 2 ∨ a = 3 ∨ a = 4 ∨ a = 5 ∨ a = 6 := by omega
      rcases this with q | q | q | q | q | q | q <;> subst q <;> cases b <;> rfl
    · unfold FR
      rw [blt_f.mpr h8]
      cases b <;> rfl
def frD (b : Bool) : Nat → Nat → Bool := fun r j => !Nat.beq r 7 && (!Nat.beq r (dfC b) && (!Nat.beq r (dfC b + 1) && (!Nat.beq r (dfC b + 2) && !Nat.beq r (dfC b + 3))))
theorem frd_D {M' : M2} (h : agr (frd b) M M') : agr (frD b) M M' := agr_m (fun r j q => by
  unfold frD at q
  unfold frd
  simp only [Bool.and_eq_true] at q ⊢
  refine ⟨?_, q.2⟩
  have := q.1
  cases hb : Nat.beq r 7 with
  | false => rfl
  | true => rw [hb] at this; exact absurd this (by decide)) h
theorem k41 {g : Mm → Prop} (hd : 1 ≤ d) (k : g (FR b, sF (sF M (dfC b) 3 0) (dfC b) 4 0)) : WP d 107 41 0 [.ref (dfC b)] [] 107 (FR b, M) (rV g) := by
  obtain ⟨d, rfl⟩ := ex1 hd
  exact v41_0 (oK_i (dfK b).2.1 (dfK b).1 (oK_i (dfK b).2.1 (dfK b).1 k))
/-- law, the class's: what is read, or the place where it stopped -/
theorem k38 {S : M2} (hd : 65 ≤ d) (hn : ix (gI S 7 0) ≤ 120) (htp : tp = gI S 8) (k0 : (RD tp (ix (gI S 7 0))).1 = false → ∀ M', agr (frD b) S M' → gI M' 7 0 = 0 → f (-100 - nI (RD tp (ix (gI S 7 0))).2.1) (FR b, M')) (k1 : (RD tp (ix (gI S 7 0))).1 = true → ∀ M', agr (frD b) S M' → gI M' 7 0 = 0 → (gI M' (dfC b) 3 = nI (RD tp (ix (gI S 7 0))).2.2.1.length ∧ ∀ j, j < (RD tp (ix (gI S 7 0))).2.2.1.length → gI M' (dfC b + 1) j = (RD tp (ix (gI S 7 0))).2.2.1.getD j 0) → LSK b M' (RD tp (ix (gI S 7 0))).2.2.2 → f 1 (FR (!b), M')) : WP d 107 38 0 [.ref 4, U] [] 107 (FR b, S) (rI f) := by
  obtain ⟨d, rfl⟩ := ex1 (e := 64) hd
  obtain ⟨d, rfl⟩ := ex1 (e := 63) (d := d) (by omega)
  obtain ⟨d, rfl⟩ := ex1 (e := 62) (d := d) (by omega)
  have o := dfK b
  have e7 := df7 b
  refine v38_0 (v39_0 (v40_0 (oK_i o.2.1 o.1 (k41 (by omega) ⟨rfl, ?_⟩))))
  have hC0 : CS b tp (ix (gI S 7 0)) (sF (sF (sI S 7 2 0) (dfC b) 3 0) (dfC b) 4 0) 0 [] := by
    rw [sF_eq, sF_eq]
    refine ⟨?_, fun j => ?_, ?_, ?_, fun j hj => absurd hj (Nat.not_lt_zero _)⟩
    · rw [gI_or e7.2.2.1, gI_or e7.2.2.1, gI_oj (by decide), n_ix]
    · rw [gI_or e7.2.2.2.2.1, gI_or e7.2.2.2.2.1, gI_or (by decide), htp]
    · rw [gI_or e7.2.2.1, gI_or e7.2.2.1, gI_s]; rfl
    · rw [gI_oj (by decide), gI_s]; rfl
  have hL0 : LSK b (sF (sF (sI S 7 2 0) (dfC b) 3 0) (dfC b) 4 0) [] := by
    rw [sF_eq, sF_eq]
    exact ⟨gI_s .., fun j hj => absurd hj (Nat.not_lt_zero _)⟩
  have hA0 : agr (frd b) S (sF (sF (sI S 7 2 0) (dfC b) 3 0) (dfC b) 4 0) := by
    rw [sF_eq, sF_eq]
    exact agr_sI (by cases b <;> rfl) (agr_sI (by cases b <;> rfl) (agr_sI rfl (agr_r S)))
  have hT : CTX b tp (ix (gI S 7 0)) (EE tp (ix (gI S 7 0))) 43 60 [.ref 7, .int 0, U, U] := TEi (d0 := 55) (o := nI (6 - 6)) hn (opP_ok bHok 6) (T48 hn 6 (by decide)) (by decide)
  have K := fun f => k40 (f := f) (d := d) (M0 := S) hn (EEok tp (ix (gI S 7 0))) hT (by omega) 60 0 [] [] _ rfl hC0 (Nat.zero_le _) (Nat.le_refl _) hL0 hA0
  dsimp only
  refine K _ (fun M' hM' hC' hL' => ⟨rfl, ?_⟩)
  have hC' : CS b tp (ix (gI S 7 0)) M' (RD tp (ix (gI S 7 0))).2.1 (RD tp (ix (gI S 7 0))).2.2.1 := hC'
  have hA1 : agr (frD b) S (sI M' 7 0 0) := agr_sI rfl (frd_D hM')
  refine brK_b (fun z => ?_) (fun z => ?_)
  · have z : (RD tp (ix (gI S 7 0))).1 = false := z
    have k0 := k0 z _ hA1 (gI_s ..)
    have pl := (RD_ok (tp := tp) (n := ix (gI S 7 0))).1
    have p1 := nI_toInt (n := (RD tp (ix (gI S 7 0))).2.1) (by omega)
    dsimp only
    rw [hC'.2.2.1]
    exact v38_7 (brK_t (by rw [i_le, z_toInt]; omega) k0)
  · have z : (RD tp (ix (gI S 7 0))).1 = true := z
    rw [FRx]
    refine v38_7 (brK_f (by decide) (k1 z _ hA1 (gI_s ..) ⟨?_, fun j hj => ?_⟩ ?_))
    · rw [gI_or e7.1]; exact hC'.2.2.2.1
    · rw [gI_or e7.2.1]; exact hC'.2.2.2.2 j hj
    · have := hL' z
      exact ⟨(gI_or e7.1).trans this.1, fun i hi => ⟨(gI_or (by cases b <;> decide)).trans (this.2 i hi).1, (gI_or (by cases b <;> decide)).trans (this.2 i hi).2⟩⟩
end READ3
