/-! best -/
def fro : Nat → Nat → Bool := fun r j => nin [92, 93] r && !(Nat.beq r 67 && Nat.beq j 47)
theorem fro_pC {b : Bool} {N N' : M2} (h : agr fro N N') : agr (pC b) N N' := by
  refine agr_m (fun r j hq => ?_) h
  unfold fro
  have h1 : nin [92, 93] r = true := nin_c (q := pC b) (fun a ha j => by
    rcases List.mem_cons.mp ha with e | e
    · rw [e]; rfl
    · rw [List.mem_singleton.mp e]; rfl) r j hq
  rw [h1]
  cases h67 : Nat.beq r 67 with
  | false => rfl
  | true =>
    have := Nat.eq_of_beq_eq_true h67
    subst this
    have hq2 : slot67 j = true := hq
    cases hj : Nat.beq j 47 with
    | false => rfl
    | true =>
      have := Nat.eq_of_beq_eq_true hj
      subst this
      exact absurd hq2 (by decide)
theorem brK_b2 {c A : Prop} {B : Prop} (h1 : A) (h2 : B) : brK c A B := ⟨fun _ => h1, fun _ => h2⟩
theorem BS_up {N N' : M2} {r c : Nat} {wt : Nat → Int32} {lo : Int32} {st : BT} {p : Nat} (h : BS N r c st) (h1 : pnK wt lo p c ≤ st.1 → OrK N r c (dg st.2) → OrK N' r c (dg st.2)) (h2 : ¬ pnK wt lo p c ≤ st.1 → OrK N' r c (dg p)) : BS N' r c (upO wt lo c st p) := by
  unfold upO
  by_cases e : pnK wt lo p c ≤ st.1
  · rw [decide_eq_true e]
    rcases h with h | h
    · exact Or.inl h
    · exact Or.inr (h1 e h)
  · rw [decide_eq_false e]
    exact Or.inr (h2 e)
theorem fdO_app {wt : Nat → Int32} {lo : Int32} {c : Nat} {st : BT} {l m : List Nat} : fdO wt lo c st (l ++ m) = fdO wt lo c (fdO wt lo c st l) m := List.foldl_append ..
section BEST
variable {d : Nat} {b : Bool} {S : M2} {c : Nat} {wt : Nat → Int32} {lo : Int32}
/-- the class's: all orders gone through -/
theorem l124 {f : Int32 → Mm → Prop} {N0 : M2} (hd : 4 ≤ d) (hc : c ≤ 6) (hlo : lo = gI N0 5 5) (h18 : gI N0 18 0 = nI c) (hwt : ∀ s, s < c → gI N0 25 s = wt s) : ∀ (l : List Nat) (i : Nat) (st : BT) (N : M2) (u5 u6 : Value), chn c l = true → i + l.length ≤ 720 → agr (fr [23, 24]) N0 N → BS N 23 c st → (∀ p t, l = p :: t → OrK N 24 c (dg p)) → (∀ N', agr (fr [23, 24]) N0 N' → BS N' 23 c (fdO wt lo c st l) → f (fdO wt lo c st l).1 (FR b, N')) → WP (d + 1) 107 124 28 [.ref 18, .int lo, .int st.1, .int 1, .int (nI i), u5, u6] [] 107 (FR b, N) (rI f) := by
  intro l
  induction l with
  | nil => intro i st N u5 u6 h; unfold chn at h; exact absurd h (by decide)
  | cons p t ih =>
    intro i st N u5 u6 hch hlen hN hbs hor q
    have hp := hor p t rfl
    have hlen : i + (t.length + 1) ≤ 720 := hlen
    unfold chn at hch
    rw [Bool.and_eq_true, Bool.and_eq_true] at hch
    have hok := hch.1.1
    have o8 : ∀ k, k < c → dg p k < 8 := fun k _ => dg_8 p k
    have nx : ∀ (N2 : M2) (st2 : BT) (x5 : Int32) (u6 : Value), agr (fr [23, 24]) N0 N2 → OrK N2 24 c (dg p) → BS N2 23 c st2 → (∀ N', agr (fr [23, 24]) N0 N' → BS N' 23 c (fdO wt lo c st2 t) → f (fdO wt lo c st2 t).1 (FR b, N')) → WP d 107 125 0 [.ref 18, U, U, U] [] 107 (FR b, N2) (rI (fun v2 N1 => N1.1 = FR b ∧ (WP (d + 1) 107 124 28 [.ref 18, .int lo, .int st2.1, .int v2, .int (nI i + 1), .int x5, u6] [] 107 (FR b, N1.2) (rI f)))) := by
      intro N2 st2 x5 u6 hN2 hp2 hb2 q2
      refine c125 (c := c) (o := dg p) (by omega) hc (by rw [agr_nI hN2 rfl]; exact h18) hp2 o8 (fun h0 => ⟨rfl, ?_⟩) (fun h1 N3 hN3 hO3 => ⟨rfl, ?_⟩)
      · cases t with
        | nil =>
          refine v124_28 (brK_b2 (q2 N2 hN2 hb2) (brK_t rfl (q2 N2 hN2 hb2)))
        | cons p2 t2 =>
          have := hch.1.2
          unfold chk1 at this
          dsimp only at this
          rw [h0] at this
          exact absurd this (by simp)
      · rw [nI_1]
        cases t with
        | nil =>
          have := Nat.eq_of_beq_eq_true hch.1.2
          exact absurd this h1
        | cons p2 t2 =>
          have c1 := hch.1.2
          unfold chk1 at c1
          rw [Bool.and_eq_true] at c1
          have c2 := allB_i c c1.2
          refine ih (i + 1) st2 N3 _ _ hch.2 (by omega) (agr_t hN2 (fr_s (by decide) hN3)) ?_ (fun p' t' e => ?_) q2
          · rcases hb2 with h | h
            · exact Or.inl h
            · exact Or.inr (fun k hk => (agr_nI hN3 rfl).trans (h k hk))
          · injection e with e1 e2
            subst e1
            intro k hk
            rw [hO3 k hk, Nat.eq_of_beq_eq_true (c2 k hk)]
    have e18 : gI N 18 0 = nI c := (agr_nI hN rfl).trans h18
    have fin : ∀ u6, WP (d + 1) 107 124 88 [.ref 18, .int lo, .int st.1, .int 1, .int (nI i), .int (pnK wt lo p c), u6] [] 107 (FR b, N) (rI f) := by
      intro u6
      have q3 : ∀ N', agr (fr [23, 24]) N0 N' → BS N' 23 c (fdO wt lo c (upO wt lo c st p) t) → f (fdO wt lo c (upO wt lo c st p) t).1 (FR b, N') := q
      refine v124_88 ⟨fun z => ?_, fun z => ⟨by decide, by decide, ?_⟩⟩
      · have e : upO wt lo c st p = st := by unfold upO; rw [decide_eq_true z]; rfl
        rw [e] at q3
        exact nx N st _ _ hN hp hbs q3
      · have e : upO wt lo c st p = (pnK wt lo p c, p) := by unfold upO; rw [decide_eq_false z]; rfl
        rw [e] at q3
        refine nx _ (pnK wt lo p c, p) _ _ (agr_cI (fun _ => rfl) hN) (fun k hk => ?_) (Or.inr (fun k hk => ?_)) q3
        · rw [cI_o (by decide)]; exact hp k hk
        · rw [cI_at (by omega)]; exact hp k hk
    have sum : ∀ m k, k + m = c → WP (d + 1) 107 124 46 [.ref 18, .int lo, .int st.1, .int 1, .int (nI i), .int (pnK wt lo p k), .int (nI k)] [] 107 (FR b, N) (rI f) := by
      intro m
      induction m with
      | zero =>
        intro k hk
        have : k = c := by omega
        subst this
        refine v124_46 (brK_t ?_ (fin _))
        rw [e18, i_le]; exact Int.le_refl _
      | succ m ih2 =>
        intro k hk
        have h := okD_i hok (show k < c by omega)
        refine v124_46 (brK_f (by rw [e18, nI_leI (by omega) (by omega)]; omega) ⟨fun z => ?_, fun z => ?_⟩)
        · rw [← pnK_lo (wt := wt) (p := p) (show k ≤ c by omega) hc z]
          exact fin _
        · refine c15 (by omega) (by decide) (Or.inl rfl) ⟨rfl, c15 (by omega) (by decide) (Or.inl rfl) ⟨rfl, ?_⟩⟩
          have e1 : ix (nI (dg p k)) = dg p k := ix_n (by omega)
          have e2 : atV N 24 (nI k) = nI (dg p k) := at24 hc hp (by omega)
          have e3 : atV N 25 (nI (dg p k)) = wt (dg p k) := by
            rw [atV_t (by rw [e1]; show dg p k < 6; omega), e1, agr_nI hN rfl]
            exact hwt _ h
          have e4 : pnK wt lo p (k + 1) = pnK wt lo p k + wt (dg p k) := by
            show pnK wt lo p k + (bif decide (lo < nI k) then 0 else wt (dg p k)) = _
            rw [decide_eq_false z]; rfl
          have := ih2 (k + 1) (by omega)
          rw [e4] at this
          dsimp only
          rw [e2, e3, nI_1]
          exact this
    refine v124_28 (brK_f (by rw [show (720 : Int32) = nI 720 from rfl, nI_leI (by decide) (by omega)]; omega) (brK_f (by decide) ?_))
    exact sum c 0 (by omega)
theorem c124 {f : Int32 → Mm → Prop} {N0 : M2} (hd : 5 ≤ d) (hc : c ≤ 6) (hlo : lo = gI N0 5 5) (h18 : gI N0 18 0 = nI c) (hwt : ∀ s, s < c → gI N0 25 s = wt s) (q : ∀ N', agr (fr [23, 24]) N0 N' → BS N' 23 c (fdO wt lo c (-1, 0) (ords c)) → f (fdO wt lo c (-1, 0) (ords c)).1 (FR b, N')) : WP d 107 124 0 [.ref 18, .int lo, U, U, U, U, U] [] 107 (FR b, N0) (rI f) := by
  obtain ⟨d, rfl⟩ := ex1 (e := 4) hd
  have ch := ords_chn c (by omega)
  have fs := ords_fst c (by omega)
  have st : ∀ m i (N : M2) (u3 u4 u5 u6 : Value), i + m = 6 → agr (fr [23, 24]) N0 N → (∀ k, k < i → gI N 24 k = nI k) → WP (d + 1) 107 124 2 [.ref 18, .int lo, .int (nI i), u3, u4, u5, u6] [] 107 (FR b, N) (rI f) := by
    intro m
    induction m with
    | zero =>
      intro i N u3 u4 u5 u6 hi hN h
      have : i = 6 := by omega
      subst this
      refine v124_2 (brK_t (by decide) ?_)
      refine l124 (by omega) hc hlo h18 hwt (ords c) 0 (-1, 0) N _ _ ch.1 (by omega) hN (Or.inl rfl) (fun p t e k hk => ?_) q
      rw [e] at fs
      rw [h k (by omega), Nat.eq_of_beq_eq_true (allB_i c fs k hk)]
    | succ m ih =>
      intro i N u3 u4 u5 u6 hi hN h
      have e1 : ix (nI i) = i := ix_n (by omega)
      refine v124_2 (brK_f (by rw [show (6 : Int32) = nI 6 from rfl, nI_leI (by decide) (by omega)]; omega) (iK_i (by omega) ?_))
      rw [e1, nI_1]
      refine ih (i + 1) _ _ _ _ _ (by omega) (agr_sI rfl hN) (fun k hk => ?_)
      by_cases e : k = i
      · subst e; exact gI_s ..
      · rw [gI_oj e]; exact h k (by omega)
  exact v124_0 (st 6 0 N0 _ _ _ _ rfl (agr_r N0) (fun k hk => absurd hk (by omega)))
/-- the reference's -/
theorem c260 {wt : Nat → Int32} {lo : Int32} (hc : c ≤ 6) : ∀ (m : Nat) (k u p : Nat) (st : BT) (N : M2) (g : Mm → Prop) (d : Nat), m + 1 ≤ d → k + m = c → u < 64 → p < 8 ^ k → gI N 67 2 = nI c → gI N 68 5 = lo → (∀ s, s < c → gI N 70 s * gI N 91 s = wt s) → OrK N 92 k (dg p) → gI N 67 47 = st.1 → BS N 93 c st → (∀ N', agr fro N N' → (∀ j, j < k → gI N' 92 j = gI N 92 j) → gI N' 67 47 = (fdO wt lo c st (goO c m k u p)).1 → BS N' 93 c (fdO wt lo c st (goO c m k u p)) → g (FR b, N')) → WP d 107 260 0 [.ref 67, .int (nI k), .int (nI u), .int (pnK wt lo p k), U] [] 107 (FR b, N) (rV g) := by
  intro m
  induction m with
  | zero =>
    intro k u p st N g d hd hk hu hp h2 h5 hw h92 h47 hbs q
    obtain ⟨d, rfl⟩ := ex1 (e := 0) hd
    have : k = c := by omega
    subst this
    have q : ∀ N', agr fro N N' → (∀ j, j < k → gI N' 92 j = gI N 92 j) → gI N' 67 47 = (upO wt lo k st p).1 → BS N' 93 k (upO wt lo k st p) → g (FR b, N') := q
    refine v260_0 (brK_t h2.symm ?_)
    rw [h47]
    refine ⟨fun z => ?_, fun z => ?_⟩
    · have z2 : ¬ pnK wt lo p k ≤ st.1 := fun e => by rw [i_le] at e; rw [i_lt] at z; omega
      have e : upO wt lo k st p = (pnK wt lo p k, p) := by unfold upO; rw [decide_eq_false z2]; rfl
      rw [e] at q
      have l : ∀ m i (N1 : M2), i + m = k → agr fro N N1 → gI N1 67 47 = pnK wt lo p k → OrK N1 92 k (dg p) → (∀ j, j < i → gI N1 93 j = nI (dg p j)) → WP (d + 1) 107 260 25 [.ref 67, .int (nI k), .int (nI u), .int (pnK wt lo p k), .int (nI i)] [] 107 (FR b, N1) (rV g) := by
        intro m
        induction m with
        | zero =>
          intro i N1 hi hN h47' h92' h
          have : i = k := by omega
          subst this
          refine v260_25 (brK_t ?_ (q N1 hN (fun j hj => (h92' j hj).trans (h92 j hj).symm) h47' (Or.inr h)))
          rw [agr_nI hN rfl, h2, i_le]; exact Int.le_refl _
        | succ m ih =>
          intro i N1 hi hN h47' h92' h
          have e1 : ix (nI i) = i := ix_n (by omega)
          refine v260_25 (brK_f (by rw [agr_nI hN rfl, h2, nI_leI (by omega) (by omega)]; omega) (iK_i (by omega) (iK_i (by omega) ?_)))
          rw [e1, nI_1]
          refine ih (i + 1) _ (by omega) (agr_sI rfl hN) ?_ (fun j hj => ?_) (fun j hj => ?_)
          · rw [gI_or (by decide)]; exact h47'
          · rw [gI_or (by decide)]; exact h92' j hj
          · by_cases e : j = i
            · subst e; rw [gI_s]; exact h92' j (by omega)
            · rw [gI_oj e]; exact h j (by omega)
      exact l k 0 _ (by omega) (agr_sI rfl (agr_r N)) (gI_s ..) (fun j hj => by rw [gI_or (by decide)]; exact h92 j hj) (fun j hj => absurd hj (by omega))
    · have e : upO wt lo k st p = st := by unfold upO; rw [decide_eq_true (i_nlt z)]; rfl
      rw [e] at q
      exact q N (agr_r N) (fun _ _ => rfl) h47 hbs
  | succ m ih =>
    intro k u p st N g d hd hk hu hp h2 h5 hw h92 h47 hbs q
    obtain ⟨d, rfl⟩ := ex1 (e := m + 1) hd
    have k6 : k < 6 := by omega
    have ek : ix (nI k) = k := ix_n (by omega)
    refine v260_0 (brK_f (fun z => ?_) ?_)
    · rw [h2] at z
      have := congrArg ix z
      rw [ix_n (by omega), ix_n (by omega)] at this
      omega
    have l : ∀ r s (st1 : BT) (N1 : M2), s + r = c → agr fro N N1 → (∀ j, j < k → gI N1 92 j = gI N 92 j) → gI N1 67 47 = st1.1 → BS N1 93 c st1 → (∀ N', agr fro N N' → (∀ j, j < k → gI N' 92 j = gI N 92 j) → gI N' 67 47 = (fdO wt lo c st1 (catN (fun s => bif Nat.testBit u s then [] else goO c m (k + 1) (u ||| 2 ^ s) (p + s * 8 ^ k)) r s)).1 → BS N' 93 c (fdO wt lo c st1 (catN (fun s => bif Nat.testBit u s then [] else goO c m (k + 1) (u ||| 2 ^ s) (p + s * 8 ^ k)) r s)) → g (FR b, N')) → WP (d + 1) 107 260 58 [.ref 67, .int (nI k), .int (nI u), .int (pnK wt lo p k), .int (nI s)] [] 107 (FR b, N1) (rV g) := by
      intro r
      induction r with
      | zero =>
        intro s st1 N1 hs hN h9 h47' hb q
        have : s = c := by omega
        subst this
        refine v260_58 (brK_t ?_ (q N1 hN h9 h47' hb))
        rw [agr_nI hN rfl, h2, i_le]; exact Int.le_refl _
      | succ r ih2 =>
        intro s st1 N1 hs hN h9 h47' hb q
        have es : ix (nI s) = s := ix_n (by omega)
        have bt : ((nI u >>> (nI s &&& 31)) &&& 1 : Int32) = nI (tb u s) := bitV_n (by omega) (by omega)
        have q : ∀ N', agr fro N N' → (∀ j, j < k → gI N' 92 j = gI N 92 j) → gI N' 67 47 = (fdO wt lo c st1 ((bif Nat.testBit u s then [] else goO c m (k + 1) (u ||| 2 ^ s) (p + s * 8 ^ k)) ++ catN (fun s => bif Nat.testBit u s then [] else goO c m (k + 1) (u ||| 2 ^ s) (p + s * 8 ^ k)) r (s + 1))).1 → BS N' 93 c (fdO wt lo c st1 ((bif Nat.testBit u s then [] else goO c m (k + 1) (u ||| 2 ^ s) (p + s * 8 ^ k)) ++ catN (fun s => bif Nat.testBit u s then [] else goO c m (k + 1) (u ||| 2 ^ s) (p + s * 8 ^ k)) r (s + 1))) → g (FR b, N') := q
        refine v260_58 (brK_f (by rw [agr_nI hN rfl, h2, nI_leI (by omega) (by omega)]; omega) ?_)
        rw [bt]
        unfold tb
        cases hu2 : Nat.testBit u s with
        | true =>
          rw [hu2] at q
          refine brK_t rfl ?_
          rw [nI_1]
          exact ih2 (s + 1) st1 N1 (by omega) hN h9 h47' hb q
        | false =>
          rw [hu2] at q
          have q : ∀ N', agr fro N N' → (∀ j, j < k → gI N' 92 j = gI N 92 j) → gI N' 67 47 = (fdO wt lo c st1 (goO c m (k + 1) (u ||| 2 ^ s) (p + s * 8 ^ k) ++ catN (fun s => bif Nat.testBit u s then [] else goO c m (k + 1) (u ||| 2 ^ s) (p + s * 8 ^ k)) r (s + 1))).1 → BS N' 93 c (fdO wt lo c st1 (goO c m (k + 1) (u ||| 2 ^ s) (p + s * 8 ^ k) ++ catN (fun s => bif Nat.testBit u s then [] else goO c m (k + 1) (u ||| 2 ^ s) (p + s * 8 ^ k)) r (s + 1))) → g (FR b, N') := q
          rw [fdO_app] at q
          have u2 : u ||| 2 ^ s < 64 := Nat.or_lt_two_pow (n := 6) hu (Nat.pow_lt_pow_right (by decide) (by omega))
          have eu : (nI u ||| ((1 : Int32) <<< (nI s &&& 31))) = nI (u ||| 2 ^ s) := by
            have : 2 ^ s < 2 ^ 6 := Nat.pow_lt_pow_right (by decide) (by omega)
            rw [sh_1 s (by omega), nI_or (by omega) (by omega)]
          have step : ∀ pk, pk = pnK wt lo (p + s * 8 ^ k) (k + 1) → WP d 107 260 0 [.ref 67, .int (nI k + 1), .int (nI u ||| ((1 : Int32) <<< (nI s &&& 31))), .int pk, U] [] 107 (FR b, sI N1 92 k (nI s)) (rV (fun N1 => N1.1 = FR b ∧ (WP (d + 1) 107 260 58 [.ref 67, .int (nI k), .int (nI u), .int (pnK wt lo p k), .int (nI s + 1)] [] 107 (FR b, N1.2) (rV g)))) := by
            intro pk hpk
            subst hpk
            rw [nI_1, eu, nI_1]
            have ag : agr fro N1 (sI N1 92 k (nI s)) := agr_sI rfl (agr_r N1)
            refine ih (k + 1) (u ||| 2 ^ s) (p + s * 8 ^ k) st1 _ _ d (by omega) (by omega) u2 (dg_lt hp (by omega)) ?_ ?_ (fun t ht => ?_) (fun j hj => ?_) ?_ ?_ (fun N2 hN2 h92' h47'' hb2 => ⟨rfl, ?_⟩)
            · rw [gI_or (by decide), agr_nI hN rfl]; exact h2
            · rw [gI_or (by decide), agr_nI hN rfl]; exact h5
            · rw [gI_or (by decide), gI_or (by decide), agr_nI hN rfl, agr_nI hN rfl]; exact hw t ht
            · by_cases e : j = k
              · subst e; rw [gI_s, dg_at hp (by omega)]
              · rw [gI_oj e, dg_lo (by omega), h9 j (by omega)]; exact h92 j (by omega)
            · rw [gI_or (by decide)]; exact h47'
            · rcases hb with h | h
              · exact Or.inl h
              · exact Or.inr (fun j hj => by rw [gI_or (by decide)]; exact h j hj)
            · refine ih2 (s + 1) _ N2 (by omega) (agr_t hN (agr_t ag hN2)) (fun j hj => ?_) h47'' hb2 q
              rw [h92' j (by omega), gI_oj (by omega)]
              exact h9 j hj
          have epk : pnK wt lo (p + s * 8 ^ k) (k + 1) = pnK wt lo p k + (bif decide (lo < nI k) then 0 else wt s) := by
            show pnK wt lo (p + s * 8 ^ k) k + (bif decide (lo < nI k) then 0 else wt (dg (p + s * 8 ^ k) k)) = _
            rw [dg_at hp (by omega)]
            congr 1
            exact sm_c k (fun j hj => by rw [dg_lo hj])
          refine brK_f (by decide) (iK_i (by omega) ?_)
          rw [ek, agr_nI hN rfl, h5, es]
          refine ⟨fun z => ?_, fun z => iK_i (by omega) (iK_i (by omega) ?_)⟩
          · refine step _ ?_
            rw [epk, decide_eq_true z]
            show _ = pnK wt lo p k + 0
            rw [Int32.add_zero]
          · refine step _ ?_
            rw [epk, decide_eq_false z, agr_nI (p := fro) hN rfl, agr_nI (p := fro) hN rfl, hw s (by omega)]
            rfl
    exact l c 0 st N (by omega) (agr_r N) (fun _ _ => rfl) h47 hbs q
/-- what one stall brings at the first place -/
def wtB (b : Bool) (S : M2) (n s : Nat) : Int32 := htV b S rmZ s n * gI S 20 s
def bsF (b : Bool) (S : M2) (n : Nat) : BT := fdO (wtB b S n) (gI S 5 5) (cnS S) (-1, 0) (ords (cnS S))
def bstV (b : Bool) (S : M2) (x w : Int32) : Int32 := bif rg x 201 && decide (-1 ≤ w) then (bif decide (0 ≤ w) then (bif decide (gI S 18 0 ≤ w) then -2 else nI (dg (bsF b S (ix x)).2 (ix w))) else (bsF b S (ix x)).1) else -1
theorem htV_n {S : M2} {rem : Nat → Int32} {s : Nat} : ∀ n, n ≤ 200 → ix (htV b S rem s n) ≤ n
  | 0, _ => Nat.le_refl _
  | n + 1, h => by
    have ih := htV_n (S := S) (rem := rem) (s := s) n (by omega)
    show ix (htV b S rem s n + bitV (gI S 19 s) (sdn b S rem n)) ≤ n + 1
    rcases bitV_01 (gI S 19 s) (sdn b S rem n) with e | e <;> rw [e]
    · rw [Int32.add_zero]; omega
    · rw [ix_succ (by omega)]; omega
theorem wtB_n (hI : INV b S) {n s : Nat} (hn : n ≤ 200) (hs : s < 6) : ix (wtB b S n s) < 20000 := by
  have h1 := htV_n (b := b) (S := S) (rem := rmZ) (s := s) n hn
  have h2 : ix (gI S 20 s) < 100 := (hI.2.2.1.2.2 s hs).1.2.1
  have h3 : ix (htV b S rmZ s n) * ix (gI S 20 s) ≤ 200 * 99 := Nat.mul_le_mul (by omega) (by omega)
  unfold wtB
  rw [ix_mul (by omega)]
  omega
theorem pcV_0 (hI : INV b S) {n s : Nat} : pcV b S rmZ s 0 n = wtB b S n s := by
  have h : ix (gI S 5 5) < GR 5 := hI.2.1.1 5 (by decide)
  have h5 := ix_t (gI S 5 5)
  have g5 : GR 5 < 1000 := by decide
  unfold pcV slV wtB
  rw [decide_eq_false (show ¬ gI S 5 5 < (0 : Int32) by rw [i_lt, z_toInt]; omega)]
  rfl
theorem fr23_pC {N N' : M2} (h : agr (fr [23, 24, 25]) N N') : agr (pC b) N N' := fr_m (fun a ha j => by
  have : a = 23 ∨ a = 24 ∨ a = 25 := by simpa using ha
  rcases this with e | e | e <;> subst e <;> rfl) h
theorem c123 {g : Mm → Prop} {s : Nat} {v : Int32} {N : M2} (hd : 1 ≤ d) (hs : s < 6) (k : g (FR b, sI N 25 s v)) : WP d 107 123 0 [.ref 18, .int (nI s), .int v] [] 107 (FR b, N) (rV g) := by
  obtain ⟨d, rfl⟩ := ex1 hd
  have s1 := nI_toInt (n := s) (by omega)
  have es : ix (nI s) = s := ix_n (by omega)
  refine v123_0 (brK_f (by rw [i_lt, z_toInt]; omega) (brK_f (by rw [show (6 : Int32) = nI 6 from rfl, nI_leI (by decide) (by omega)]; omega) (iK_i (by omega) ?_)))
  rw [es]
  exact k
theorem P_best (hI : INV b S) {x w : Int32} : PAIR b S 122 259 [.ref 4, .int x, .int w, U] [.ref 67, .int x, .int w] := by
  have hc6 : cnS S ≤ 6 := hI.2.2.1.1
  have h18 : gI S 18 0 = nI (cnS S) := (n_ix _).symm
  have hne : ∀ n, n ≤ 200 → (bsF b S n).1 ≠ -1 := by
    intro n hn e
    unfold bsF at e
    have ch := (ords_chn (cnS S) (by omega)).1
    have hok := chn_ok _ ch
    have hw : ∀ s, s < cnS S → ix (wtB b S n s) < 20000 := fun s hs => wtB_n hI hn (by omega)
    cases ho : ords (cnS S) with
    | nil => rw [ho] at ch; unfold chn at ch; exact absurd ch (by decide)
    | cons p t =>
      rw [ho] at e hok
      have := fdO_1 (wt := wtB b S n) (lo := gI S 5 5) (g := 0) hc6 hw hok
      rw [e] at this
      exact absurd this (by decide)
  refine PAIR_ro hI (bstV b S x w) (fun d hd f k => ?_) (fun N hA d hd f k => ?_)
  · unfold bstV at k
    refine v122_0 (c65 (by omega) ⟨rfl, brK_b (fun h => ?_) (fun h => brK_d (fun h2 => ?_) (fun h2 => ?_))⟩)
    · rw [h] at k; exact k S (agr_r S)
    · rw [h, h2] at k
      have hy := rg_tt h
      refine c67n (S := S) (by omega) hI (by omega) (agr_r S) (fun N0 hN0 hT => ⟨rfl, ?_⟩)
      have hA0 : agr (pC b) S N0 := frt_pC hN0
      have l : ∀ m s (N1 : M2), s + m = cnS S → agr (fr [23, 24, 25]) N0 N1 → (∀ j, j < s → gI N1 25 j = wtB b S (ix x) j) → WP (d + 1) 107 122 22 [.ref 4, .int x, .int w, .int (nI s)] [] 107 (FR b, N1) (rI f) := by
        intro m
        induction m with
        | zero =>
          intro s N1 hs hN h25
          have : s = cnS S := by omega
          subst this
          have hA1 : agr (pC b) S N1 := agr_t hA0 (fr23_pC hN)
          have e18 : gI N1 18 0 = nI (cnS S) := (agr_nI hA1 rfl).trans h18
          have e5 : gI N1 5 5 = gI S 5 5 := agr_nI hA1 rfl
          refine v122_22 (brK_t (by rw [e18, i_le]; exact Int.le_refl _) ?_)
          rw [e5]
          refine c124 (c := cnS S) (wt := wtB b S (ix x)) (by omega) hc6 e5.symm e18 h25 (fun N2 hN2 hb2 => ⟨rfl, ?_⟩)
          have hA2 : agr (pC b) S N2 := agr_t hA1 (fr23_pC (fr_s (by decide) hN2))
          have k2 := k N2 hA2
          refine brK_d (fun z => ?_) (fun z => ?_)
          · rw [z] at k2
            dsimp only
            rw [show gI N2 18 0 = gI S 18 0 from agr_nI hA2 rfl]
            refine brK_d (fun y => ?_) (fun y => ?_)
            · rw [y] at k2; exact k2
            · rw [y] at k2
              have w0 := of_decide_eq_true z
              have w1 := of_decide_eq_false y
              have wt1 := ix_t w
              rw [i_le, z_toInt] at w0
              have w31 : ix w < 2 ^ 31 := by omega
              rw [h18, ix_leI (by rw [ix_n (by omega)]; omega) w31, ix_n (by omega)] at w1
              refine c15 (by omega) (by decide) (Or.inl rfl) ⟨rfl, ?_⟩
              rw [atV_t (show ix w < 6 by omega)]
              have := hb2.resolve_left (hne (ix x) (by omega)) (ix w) (by omega)
              rw [this]
              exact k2
          · rw [z] at k2; exact k2
        | succ m ih =>
          intro s N1 hs hN h25
          have hA1 : agr (pC b) S N1 := agr_t hA0 (fr23_pC hN)
          have e18 : gI N1 18 0 = nI (cnS S) := (agr_nI hA1 rfl).trans h18
          have es : ix (nI s) = s := ix_n (by omega)
          have hT1 : TrK b S rmZ (ix x) N1 := ⟨HW_a (fun j => (hN 6 j rfl).1) hT.1, fun j hj => (agr_nI hN rfl).trans (hT.2 j hj)⟩
          refine v122_22 (brK_f (by rw [e18, nI_leI (by omega) (by omega)]; omega) (c120 (S := S) (by omega) hA1 (by rw [es]; omega) (by omega) hT1 ⟨rfl, c123 (by omega) (by omega) ⟨rfl, ?_⟩⟩))
          rw [nI_1, es, pcV_0 hI]
          refine ih (s + 1) _ (by omega) (agr_sI rfl hN) (fun j hj => ?_)
          by_cases e : j = s
          · subst e; exact gI_s ..
          · rw [gI_oj e]; exact h25 j (by omega)
      exact l (cnS S) 0 N0 (by omega) (agr_r N0) (fun j hj => absurd hj (by omega))
    · rw [h, h2] at k; exact k S (agr_r S)
  · unfold bstV at k
    refine v259_0 (c220 (by omega) ⟨rfl, brK_b (fun h => ?_) (fun h => brK_d (fun h2 => ?_) (fun h2 => ?_))⟩)
    · rw [h] at k; exact k N hA
    · rw [h, h2] at k
      have hy := rg_tt h
      refine c256 (S := S) (rem := rmZ) (by omega) hI hA (by omega) (fun z => absurd z (by decide)) (fun _ => rfl) (fun N1 hN1 hh => ⟨rfl, ?_⟩)
      have hA1 := agr_t hA (fr91 (b := b) hN1)
      have c0 : gI N1 67 2 = nI (cnS S) := cnt_e hI hA1
      have := c260 (b := b) (c := cnS S) (wt := wtB b S (ix x)) (lo := gI S 5 5) hc6 (cnS S) 0 0 0 (-1, 0) (sI N1 67 47 (-1)) (fun M => M.1 = FR b ∧ (brK (0 ≤ w) (brK ((gI M.2 67 2) ≤ w) (f (-2) (FR b, M.2)) (iK w 6 (f (gI M.2 93 (ix w)) (FR b, M.2)))) (f (gI M.2 67 47) (FR b, M.2)))) d (by omega) (by omega) (by decide) (by decide) ?_ ?_ (fun s hs => ?_) (fun j hj => absurd hj (by omega)) (gI_s ..) (Or.inl rfl) (fun N2 hN2 _ h47 hb2 => ⟨rfl, ?_⟩)
      · exact this
      · rw [gI_oj (by decide)]; exact c0
      · rw [gI_or (by decide), e68 hI hA1 (by decide)]
      · rw [gI_or (by decide), gI_or (by decide), (vil_e hI hA1 (by omega)).2.1, hh s hs, Int32.mul_comm]
        rfl
      · have hA2 : agr (pC b) S N2 := agr_t hA1 (agr_t (agr_sI rfl (agr_r N1)) (fro_pC hN2))
        have k2 := k N2 hA2
        refine brK_d (fun z => ?_) (fun z => ?_)
        · rw [z] at k2
          dsimp only
          rw [show gI N2 67 2 = gI S 18 0 from (cnt_e hI hA2).trans h18.symm]
          refine brK_d (fun y => ?_) (fun y => ?_)
          · rw [y] at k2; exact k2
          · rw [y] at k2
            have w0 := of_decide_eq_true z
            have w1 := of_decide_eq_false y
            have wt1 := ix_t w
            rw [i_le, z_toInt] at w0
            have w31 : ix w < 2 ^ 31 := by omega
            rw [h18, ix_leI (by rw [ix_n (by omega)]; omega) w31, ix_n (by omega)] at w1
            refine iK_i (by omega) ?_
            have := hb2.resolve_left (hne (ix x) (by omega)) (ix w) (by omega)
            rw [this]
            exact k2
        · rw [z] at k2
          dsimp only
          rw [h47]
          exact k2
    · rw [h, h2] at k; exact k N hA
end BEST
