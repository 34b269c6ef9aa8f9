/-! drawn -/
def zs (seed : Int32) : Nat → Int32
  | 0 => seed
  | i + 1 => zs seed i * 1103515245 + 12345
def u16 (z : Int32) : Int32 := (z.toUInt32 >>> ((16 : Int32).toUInt32 &&& Int32.toUInt32 31)).toInt32
def u8 (z : Int32) : Int32 := (z.toUInt32 >>> ((8 : Int32).toUInt32 &&& Int32.toUInt32 31)).toInt32
def rmD (t z : Int32) : Int32 := bif decide (t ≤ md (u16 z) 12) then 0 else md (u8 z) 10
/-- the remarks of a night -/
def rmN (seed t : Int32) (mh a : Nat) : Nat → Int32 := fun i => rmD t (zs seed (a * mh + i + 1))
def dnN (g : Nat → Nat) : Nat → Nat
  | 0 => 0
  | a + 1 => dnN g a + g a
theorem dnN_le {g : Nat → Nat} {c : Nat} (h : ∀ a, g a ≤ c) : ∀ n, dnN g n ≤ n * c
  | 0 => Nat.le_of_eq (Nat.zero_mul c).symm
  | n + 1 => by
    have := dnN_le h n
    have := h n
    show dnN g n + g n ≤ (n + 1) * c
    rw [Nat.succ_mul]
    omega
def lmD (b : Bool) (S : M2) (seed t : Int32) (mh a : Nat) : Nat → Bool := lmn b S (rmN seed t mh a)
def thD (b : Bool) (S : M2) (seed t th : Int32) (mh a : Nat) : Nat → Bool := fun i => decide (sdn b S (rmN seed t mh a) i = th)
def drW (b : Bool) (S : M2) (seed t th w : Int32) (nn mh : Nat) : Int32 := bif decide (w = 0) then nI (dnN (fun a => cn (lmD b S seed t mh a) mh) nn) else nI (dnN (fun a => cn (thD b S seed t th mh a) mh) nn)
def drG (nm tt w : Int32) : Bool := !decide (nm < 0) && (inV (nm / 100) 1 30 && (inV (md nm 100) 1 24 && (!decide (tt < 0) && (rg (tt / 100) 16 && (rg (md tt 100) 13 && rg w 2)))))
def drnV (b : Bool) (S : M2) (seed nm tt w : Int32) : Int32 := bif drG nm tt w then drW b S seed (md tt 100) (tt / 100) w (ix (nm / 100)) (ix (md nm 100)) else -1
theorem drG_t {nm tt w : Int32} (h : drG nm tt w = true) : ¬ nm < 0 ∧ inV (nm / 100) 1 30 = true ∧ inV (md nm 100) 1 24 = true ∧ ¬ tt < 0 ∧ rg (tt / 100) 16 = true ∧ rg (md tt 100) 13 = true ∧ rg w 2 = true := by
  unfold drG at h
  simp only [Bool.and_eq_true, Bool.not_eq_true', decide_eq_false_iff_not] at h
  exact ⟨h.1, h.2.1, h.2.2.1, h.2.2.2.1, h.2.2.2.2.1, h.2.2.2.2.2.1, h.2.2.2.2.2.2⟩
theorem drG_f {nm tt w : Int32} (h : ¬ (¬ nm < 0 ∧ inV (nm / 100) 1 30 = true ∧ inV (md nm 100) 1 24 = true ∧ ¬ tt < 0 ∧ rg (tt / 100) 16 = true ∧ rg (md tt 100) 13 = true ∧ rg w 2 = true)) : drG nm tt w = false := by
  cases hh : drG nm tt w with
  | false => rfl
  | true => exact absurd (drG_t hh) h
theorem drG_i {nm tt w : Int32} (h1 : ¬ nm < 0) (h2 : inV (nm / 100) 1 30 = true) (h3 : inV (md nm 100) 1 24 = true) (h4 : ¬ tt < 0) (h5 : rg (tt / 100) 16 = true) (h6 : rg (md tt 100) 13 = true) (h7 : rg w 2 = true) : drG nm tt w = true := by
  unfold drG
  rw [decide_eq_false h1, h2, h3, decide_eq_false h4, h5, h6, h7]; rfl
theorem md13 {tt : Int32} (h : ¬ tt < 0) : md tt 100 ≤ 12 ↔ rg (md tt 100) 13 = true := by
  have h1 := ix_t tt
  have h2 : 0 ≤ tt.toInt := by rw [i_lt, z_toInt] at h; omega
  have h3 : ix (md tt 100) = ix tt % 100 := md_ix (n := 100) (m := 100) rfl (by decide) (by omega)
  rw [ix_leI (by omega) (by decide), rg_t, show ix 12 = 12 from rfl]
  omega
section DRAWN
variable {d : Nat} {b : Bool} {S : M2}
theorem C_drawn (hI : INV b S) {seed nm tt w : Int32} {f : Int32 → Mm → Prop} (hd : 199 ≤ d) (k : ∀ M', agr (pC b) S M' → f (drnV b S seed nm tt w) (FR b, M')) : WP (d + 1) 107 144 0 [.ref 4, .int seed, .int nm, .int tt, .int w, U, U, U, U, U, U, U, U, U, U] [] 107 (FR b, S) (rI f) := by
  have hL : LawR b S := hI.2.2.2.2.2.2.2.2.2
  unfold drnV at k
  have bad : drG nm tt w = false → f (-1) (FR b, S) := fun h => by rw [h] at k; exact k S (agr_r S)
  refine v144_0 ⟨fun h => ?_, fun h => ⟨fun h2 => ?_, fun h2 => ⟨fun h3 => ?_, fun h3 => ⟨fun h4 => ?_, fun h4 => ⟨fun h5 => ?_, fun h5 => c79 (by omega) ⟨rfl, brK_b (fun h6 => ?_) (fun h6 => ⟨fun h7 => ?_, fun h7 => c78 (by omega) ⟨rfl, brK_b (fun h8 => ?_) (fun h8 => ⟨fun h9 => ?_, fun h9 => ?_⟩)⟩⟩)⟩⟩⟩⟩⟩⟩
  · exact bad (drG_f (fun q => q.1 h))
  · exact bad (drG_f (fun q => ff (inV_fl h2) q.2.1))
  · exact bad (drG_f (fun q => ff (inV_fh h3) q.2.1))
  · exact bad (drG_f (fun q => ff (inV_fl h4) q.2.2.1))
  · exact bad (drG_f (fun q => ff (inV_fh h5) q.2.2.1))
  · exact bad (drG_f (fun q => ff h6 q.2.2.2.2.2.2))
  · exact bad (drG_f (fun q => q.2.2.2.1 h7))
  · exact bad (drG_f (fun q => ff h8 q.2.2.2.2.1))
  · have hn := inV_1 (n := 30) rfl (by decide) (inV_t h2 h3)
    have hm := inV_1 (n := 24) rfl (by decide) (inV_t h4 h5)
    have hm : 1 ≤ ix (md nm 100) ∧ ix (md nm 100) ≤ 24 := hm
    rw [drG_i h (inV_t h2 h3) (inV_t h4 h5) h7 h8 ((md13 h7).mp h9) h6] at k
    have k : ∀ M', agr (pC b) S M' → f (drW b S seed (md tt 100) (tt / 100) w (ix (nm / 100)) (ix (md nm 100))) (FR b, M') := k
    show WP (d + 1) 107 144 94 [.ref 4, .int seed, .int nm, .int tt, .int w, .int (nm / 100), .int (md nm 100), .int (tt / 100), .int (md tt 100), .int seed, .int 0, .int 0, U, U, U] [] 107 (FR b, S) (rI f)
    generalize md nm 100 = mh at k hm ⊢
    generalize nm / 100 = nn at k hn ⊢
    generalize md tt 100 = t at k ⊢
    generalize tt / 100 = th at k ⊢
    have pc : ∀ {N' : M2}, agr (fr [6, 17]) S N' → agr (pC b) S N' := fun h => fr_m (fun a ha j => by
      rcases List.mem_cons.mp ha with e | e
      · rw [e]; rfl
      · rw [List.mem_singleton.mp e]; rfl) h
    -- what is counted
    have fin : ∀ (G : Nat → Nat → Bool), (∀ a i, G a i = bif decide (w = 0) then lmD b S seed t (ix mh) a i else thD b S seed t th (ix mh) a i) → (∀ M', agr (pC b) S M' → f (nI (dnN (fun a => cn (G a) (ix mh)) (ix nn))) (FR b, M')) → WP (d + 1) 107 144 94 [.ref 4, .int seed, .int nm, .int tt, .int w, .int nn, .int mh, .int th, .int t, .int seed, .int 0, .int 0, U, U, U] [] 107 (FR b, S) (rI f) := by
      intro G hG q
      have inner : ∀ a, a < ix nn → (∀ N2 u12 u13 u14, agr (fr [6, 17]) S N2 → WP (d + 1) 107 144 94 [.ref 4, .int seed, .int nm, .int tt, .int w, .int nn, .int mh, .int th, .int t, .int (zs seed (a * ix mh + ix mh)), .int (nI (dnN (fun a => cn (G a) (ix mh)) a + cn (G a) (ix mh))), .int (nI (a + 1)), u12, u13, u14] [] 107 (FR b, N2) (rI f)) → ∀ m i (N2 : M2) (u13 u14 : Value), i + m = ix mh → agr (fr [6, 17]) S N2 → HW S N2 6 (hst b S (rmN seed t (ix mh) a) i) → WP (d + 1) 107 144 115 [.ref 4, .int seed, .int nm, .int tt, .int w, .int nn, .int mh, .int th, .int t, .int (zs seed (a * ix mh + i)), .int (nI (dnN (fun a => cn (G a) (ix mh)) a + cn (G a) i)), .int (nI a), .int (nI i), u13, u14] [] 107 (FR b, N2) (rI f) := by
        intro a ha kk m
        induction m with
        | zero =>
          intro i N2 u13 u14 hi hN hs
          have : i = ix mh := by omega
          subst this
          refine v144_115 (brK_t (by rw [n_ix, i_le]; exact Int.le_refl _) ?_)
          rw [nI_1]
          exact kk N2 _ _ _ hN
        | succ m ih =>
          intro i N2 u13 u14 hi hN hs
          have go : WP (d + 1) 107 144 167 [.ref 4, .int seed, .int nm, .int tt, .int w, .int nn, .int mh, .int th, .int t, .int (zs seed (a * ix mh + i + 1)), .int (nI (dnN (fun a => cn (G a) (ix mh)) a + cn (G a) i)), .int (nI a), .int (nI i), u13, u14] [.int (rmN seed t (ix mh) a i), .ref 7, .ref 6] 107 (FR b, N2) (rI f) := by
            refine v144_167 (c71 (S := S) (r := rmN seed t (ix mh) a i) (by omega) (by decide) rfl hL (pc hN) hs (fun N3 hN3 hs3 => ⟨rfl, ?_⟩))
            have hN4 : agr (fr [6, 17]) S N3 := agr_t hN (fr_s (by decide) hN3)
            have e3 : muV S (hst b S (rmN seed t (ix mh) a) i) (sayV b S (hst b S (rmN seed t (ix mh) a) i) (tmV S) (rmN seed t (ix mh) a i)) = mun b S (rmN seed t (ix mh) a) i := rfl
            rw [e3]
            have ec : cn (G a) (i + 1) = cn (G a) i + (bif G a i then 1 else 0) := rfl
            have nx : ∀ v u13' u14', G a i = decide (v = (1 : Int32)) → (v = 0 ∨ v = 1) → WP (d + 1) 107 144 207 [.ref 4, .int seed, .int nm, .int tt, .int w, .int nn, .int mh, .int th, .int t, .int (zs seed (a * ix mh + i + 1)), .int (nI (dnN (fun a => cn (G a) (ix mh)) a + cn (G a) i)), .int (nI a), .int (nI i), u13', u14'] [.int v] 107 (FR b, N3) (rI f) := by
              intro v u13' u14' hv h01
              have := fun u u' => ih (i + 1) N3 u u' (by omega) hN4 hs3
              rw [ec, hv] at this
              rcases h01 with e | e <;> subst e
              · refine v144_207 (brK_t rfl ?_)
                rw [Int32.add_zero, nI_1]
                exact this _ _
              · refine v144_207 (brK_f (by decide) ?_)
                rw [nI_1, nI_1]
                exact this _ _
            have hg := hG a i
            refine brK_d (fun z => ⟨fun z2 => ?_, fun z2 => ?_⟩) (fun z => ?_)
            · rw [z] at hg
              have : lmn b S (rmN seed t (ix mh) a) i = false := mun_lump.mp z2
              exact nx 0 _ _ (hg.trans (by show lmn b S (rmN seed t (ix mh) a) i = _; rw [this]; rfl)) (Or.inl rfl)
            · rw [z] at hg
              have : lmn b S (rmN seed t (ix mh) a) i = true := by
                cases hz : lmn b S (rmN seed t (ix mh) a) i with
                | true => rfl
                | false => exact absurd (mun_lump.mpr hz) z2
              exact nx 1 _ _ (hg.trans (by show lmn b S (rmN seed t (ix mh) a) i = _; rw [this]; rfl)) (Or.inr rfl)
            · rw [z] at hg
              have e1 : md (mun b S (rmN seed t (ix mh) a) i) 16 = sdn b S (rmN seed t (ix mh) a) i := mun_md
              show brK (md (mun b S (rmN seed t (ix mh) a) i) 16 = th) _ _
              rw [e1]
              refine brK_d (fun z2 => nx 1 _ _ (hg.trans ?_) (Or.inr rfl)) (fun z2 => nx 0 _ _ (hg.trans ?_) (Or.inl rfl))
              · show decide (sdn b S (rmN seed t (ix mh) a) i = th) = _; rw [z2]; rfl
              · show decide (sdn b S (rmN seed t (ix mh) a) i = th) = _; rw [z2]; rfl
          have er : rmN seed t (ix mh) a i = bif decide (t ≤ md (u16 (zs seed (a * ix mh + i) * 1103515245 + 12345)) 12) then 0 else md (u8 (zs seed (a * ix mh + i) * 1103515245 + 12345)) 10 := rfl
          refine v144_115 (brK_f (fun z => ?_) (brK_d (fun z => ?_) (fun z => ?_)))
          · rw [← n_ix mh] at z
            have := (cnt_lt (n := i) (m := ix mh) rfl (by omega) (by omega)).mp z
            omega
          · have z : decide (t ≤ md (u16 (zs seed (a * ix mh + i) * 1103515245 + 12345)) 12) = true := z
            rw [er, z] at go
            exact go
          · have z : decide (t ≤ md (u16 (zs seed (a * ix mh + i) * 1103515245 + 12345)) 12) = false := z
            rw [er, z] at go
            exact go
      have outer : ∀ m a (N2 : M2) (u12 u13 u14 : Value), a + m = ix nn → agr (fr [6, 17]) S N2 → WP (d + 1) 107 144 94 [.ref 4, .int seed, .int nm, .int tt, .int w, .int nn, .int mh, .int th, .int t, .int (zs seed (a * ix mh)), .int (nI (dnN (fun a => cn (G a) (ix mh)) a)), .int (nI a), u12, u13, u14] [] 107 (FR b, N2) (rI f) := by
        intro m
        induction m with
        | zero =>
          intro a N2 u12 u13 u14 ha hN
          have : a = ix nn := by omega
          subst this
          exact v144_94 (brK_t (by rw [n_ix, i_le]; exact Int.le_refl _) (q N2 (pc hN)))
        | succ m ih =>
          intro a N2 u12 u13 u14 ha hN
          refine v144_94 (brK_f (fun z => ?_) (c68 (S := S) (by omega) (by decide) rfl (by decide) (pc hN) (fun N3 hN3 hs3 => ⟨rfl, ?_⟩)))
          · rw [← n_ix nn] at z
            have := (cnt_lt (n := a) (m := ix nn) rfl (by omega) (by omega)).mp z
            omega
          · refine inner a (by omega) (fun N4 u12 u13 u14 hN4 => ?_) (ix mh) 0 N3 _ _ (by omega) (agr_t hN (fr_s (by decide) hN3)) hs3
            have := ih (a + 1) N4 u12 u13 u14 (by omega) hN4
            rw [Nat.succ_mul] at this
            exact this
      have := outer (ix nn) 0 S U U U (by omega) (agr_r S)
      rw [Nat.zero_mul] at this
      exact this
    unfold drW at k
    cases hw : decide (w = 0) with
    | true =>
      rw [hw] at k fin
      exact fin (fun a => lmD b S seed t (ix mh) a) (fun a i => rfl) k
    | false =>
      rw [hw] at k fin
      exact fin (fun a => thD b S seed t th (ix mh) a) (fun a i => rfl) k
  · exact bad (drG_f (fun q => h9 ((md13 h7).mpr q.2.2.2.2.2.1)))
theorem M_drawn (hI : INV b S) {seed nm tt w : Int32} {f : Int32 → Mm → Prop} {N : M2} (hd : 199 ≤ d) (hA : agr (pC b) S N) (k : ∀ M', agr (pC b) S M' → f (drnV b S seed nm tt w) (FR b, M')) : WP (d + 1) 107 272 0 [.ref 67, .int seed, .int nm, .int tt, .int w, U, U, U, U, U] [] 107 (FR b, N) (rI f) := by
  unfold drnV at k
  have bad : drG nm tt w = false → f (-1) (FR b, N) := fun h => by rw [h] at k; exact k N hA
  refine v272_0 ⟨fun h => ?_, fun h => c180 (by omega) ⟨rfl, brK_b (fun h2 => ?_) (fun h2 => c180 (by omega) ⟨rfl, brK_b (fun h3 => ?_) (fun h3 => ⟨fun h4 => ?_, fun h4 => c193 (by omega) ⟨rfl, brK_b (fun h5 => ?_) (fun h5 => c180n 12 (by omega) rfl (by decide) ⟨rfl, brK_b (fun h6 => ?_) (fun h6 => c180n 1 (by omega) rfl (by decide) ⟨rfl, brK_b (fun h7 => ?_) (fun h7 => ?_)⟩)⟩)⟩⟩)⟩)⟩⟩
  · exact bad (drG_f (fun q => q.1 h))
  · exact bad (drG_f (fun q => ff h2 q.2.1))
  · exact bad (drG_f (fun q => ff h3 q.2.2.1))
  · exact bad (drG_f (fun q => q.2.2.2.1 h4))
  · exact bad (drG_f (fun q => ff h5 q.2.2.2.2.1))
  · exact bad (drG_f (fun q => ff h6 q.2.2.2.2.2.1))
  · exact bad (drG_f (fun q => ff h7 q.2.2.2.2.2.2))
  · have hn := inV_1 (n := 30) rfl (by decide) h2
    have hm := inV_1 (n := 24) rfl (by decide) h3
    have hm : 1 ≤ ix (md nm 100) ∧ ix (md nm 100) ≤ 24 := hm
    rw [drG_i h h2 h3 h4 h5 h6 h7] at k
    have k : ∀ M', agr (pC b) S M' → f (drW b S seed (md tt 100) (tt / 100) w (ix (nm / 100)) (ix (md nm 100))) (FR b, M') := k
    unfold drW at k
    have pc : ∀ {N' : M2}, agr frh N N' → agr (pC b) S N' := fun h => agr_t hA (frh_pC h)
    have inner : ∀ a, a < ix (nm / 100) → (∀ N2 u9, agr frh N N2 → WP (d + 1) 107 272 81 [.ref 67, .int seed, .int nm, .int tt, .int w, .int (zs seed (a * ix (md nm 100) + ix (md nm 100))), .int (nI (dnN (fun a => cn (lmD b S seed (md tt 100) (ix (md nm 100)) a) (ix (md nm 100))) a + cn (lmD b S seed (md tt 100) (ix (md nm 100)) a) (ix (md nm 100)))), .int (nI (dnN (fun a => cn (thD b S seed (md tt 100) (tt / 100) (ix (md nm 100)) a) (ix (md nm 100))) a + cn (thD b S seed (md tt 100) (tt / 100) (ix (md nm 100)) a) (ix (md nm 100)))), .int (nI (a + 1)), u9] [] 107 (FR b, N2) (rI f)) → ∀ m i (N2 : M2), i + m = ix (md nm 100) → agr frh N N2 → MS N2 (hst b S (rmN seed (md tt 100) (ix (md nm 100)) a) i) → WP (d + 1) 107 272 97 [.ref 67, .int seed, .int nm, .int tt, .int w, .int (zs seed (a * ix (md nm 100) + i)), .int (nI (dnN (fun a => cn (lmD b S seed (md tt 100) (ix (md nm 100)) a) (ix (md nm 100))) a + cn (lmD b S seed (md tt 100) (ix (md nm 100)) a) i)), .int (nI (dnN (fun a => cn (thD b S seed (md tt 100) (tt / 100) (ix (md nm 100)) a) (ix (md nm 100))) a + cn (thD b S seed (md tt 100) (tt / 100) (ix (md nm 100)) a) i)), .int (nI a), .int (nI i)] [] 107 (FR b, N2) (rI f) := by
      intro a ha kk m
      induction m with
      | zero =>
        intro i N2 hi hN hs
        have : i = ix (md nm 100) := by omega
        subst this
        refine v272_97 (brK_t ?_ ?_)
        · show md nm 100 ≤ nI (ix (md nm 100))
          rw [n_ix, i_le]; exact Int.le_refl _
        · rw [nI_1]
          exact kk N2 _ hN
      | succ m ih =>
        intro i N2 hi hN hs
        have go : WP (d + 1) 107 272 146 [.ref 67, .int seed, .int nm, .int tt, .int w, .int (zs seed (a * ix (md nm 100) + i + 1)), .int (nI (dnN (fun a => cn (lmD b S seed (md tt 100) (ix (md nm 100)) a) (ix (md nm 100))) a + cn (lmD b S seed (md tt 100) (ix (md nm 100)) a) i)), .int (nI (dnN (fun a => cn (thD b S seed (md tt 100) (tt / 100) (ix (md nm 100)) a) (ix (md nm 100))) a + cn (thD b S seed (md tt 100) (tt / 100) (ix (md nm 100)) a) i)), .int (nI a), .int (nI i)] [.int (rmN seed (md tt 100) (ix (md nm 100)) a i), .ref 67] 107 (FR b, N2) (rI f) := by
          refine v272_146 (c225 (S := S) (r := rmN seed (md tt 100) (ix (md nm 100)) a i) (by omega) hI (pc hN) hs (fun N3 hN3 hs3 g33 g34 => ⟨rfl, ?_⟩))
          have g33 : gI N3 67 33 = sdn b S (rmN seed (md tt 100) (ix (md nm 100)) a) i := g33
          have g34 : gI N3 67 34 = bI (lmD b S seed (md tt 100) (ix (md nm 100)) a i) := g34
          dsimp only
          rw [g33, g34]
          have nx := ih (i + 1) N3 (by omega) (agr_t hN hN3) hs3
          have e1 : cn (lmD b S seed (md tt 100) (ix (md nm 100)) a) (i + 1) = cn (lmD b S seed (md tt 100) (ix (md nm 100)) a) i + (bif lmD b S seed (md tt 100) (ix (md nm 100)) a i then 1 else 0) := rfl
          have e2 : cn (thD b S seed (md tt 100) (tt / 100) (ix (md nm 100)) a) (i + 1) = cn (thD b S seed (md tt 100) (tt / 100) (ix (md nm 100)) a) i + (bif decide (sdn b S (rmN seed (md tt 100) (ix (md nm 100)) a) i = tt / 100) then 1 else 0) := rfl
          rw [e1, e2] at nx
          rw [nI_1, nI_1, nI_1]
          refine brK_b (fun z => brK_d (fun z2 => ?_) (fun z2 => ?_)) (fun z => brK_d (fun z2 => ?_) (fun z2 => ?_))
          · rw [z, z2] at nx; exact nx
          · rw [z, z2] at nx; exact nx
          · rw [z, z2] at nx; exact nx
          · rw [z, z2] at nx; exact nx
        have er : rmN seed (md tt 100) (ix (md nm 100)) a i = bif decide (md tt 100 ≤ md (u16 (zs seed (a * ix (md nm 100) + i) * 1103515245 + 12345)) 12) then 0 else md (u8 (zs seed (a * ix (md nm 100) + i) * 1103515245 + 12345)) 10 := rfl
        refine v272_97 (brK_f (fun z => ?_) (brK_d (fun z => ?_) (fun z => ?_)))
        · have z : md nm 100 ≤ nI i := z
          have z : nI (ix (md nm 100)) ≤ nI i := by rw [n_ix]; exact z
          have := (cnt_lt (n := i) (m := ix (md nm 100)) rfl (by omega) (by omega)).mp z
          omega
        · have z : decide (md tt 100 ≤ md (u16 (zs seed (a * ix (md nm 100) + i) * 1103515245 + 12345)) 12) = true := z
          rw [er, z] at go
          exact go
        · have z : decide (md tt 100 ≤ md (u16 (zs seed (a * ix (md nm 100) + i) * 1103515245 + 12345)) 12) = false := z
          rw [er, z] at go
          exact go
    have outer : ∀ m a (N2 : M2) (u9 : Value), a + m = ix (nm / 100) → agr frh N N2 → WP (d + 1) 107 272 81 [.ref 67, .int seed, .int nm, .int tt, .int w, .int (zs seed (a * ix (md nm 100))), .int (nI (dnN (fun a => cn (lmD b S seed (md tt 100) (ix (md nm 100)) a) (ix (md nm 100))) a)), .int (nI (dnN (fun a => cn (thD b S seed (md tt 100) (tt / 100) (ix (md nm 100)) a) (ix (md nm 100))) a)), .int (nI a), u9] [] 107 (FR b, N2) (rI f) := by
      intro m
      induction m with
      | zero =>
        intro a N2 u9 ha hN
        have : a = ix (nm / 100) := by omega
        subst this
        have k2 := k N2 (pc hN)
        refine v272_81 (brK_t (by rw [n_ix, i_le]; exact Int.le_refl _) (brK_d (fun z => ?_) (fun z => ?_)))
        · rw [z] at k2; exact k2
        · rw [z] at k2; exact k2
      | succ m ih =>
        intro a N2 u9 ha hN
        refine v272_81 (brK_f (fun z => ?_) (c222 (S := S) (by omega) hI (pc hN) (fun N3 hN3 hs3 _ => ⟨rfl, ?_⟩)))
        · rw [← n_ix (nm / 100)] at z
          have := (cnt_lt (n := a) (m := ix (nm / 100)) rfl (by omega) (by omega)).mp z
          omega
        · refine inner a (by omega) (fun N4 u9 hN4 => ?_) (ix (md nm 100)) 0 N3 (by omega) (agr_t hN hN3) hs3
          have := ih (a + 1) N4 u9 (by omega) hN4
          rw [Nat.succ_mul] at this
          exact this
    have := outer (ix (nm / 100)) 0 N U (by omega) (agr_r N)
    rw [Nat.zero_mul] at this
    exact this
theorem P_drawn (hI : INV b S) {seed nm tt w : Int32} : PAIR b S 144 272 [.ref 4, .int seed, .int nm, .int tt, .int w, U, U, U, U, U, U, U, U, U, U] [.ref 67, .int seed, .int nm, .int tt, .int w, U, U, U, U, U] :=
  PAIR_ro hI (drnV b S seed nm tt w) (fun _ hd _ k => C_drawn hI hd k) (fun _ hA _ hd _ k => M_drawn hI hd hA k)
end DRAWN
