/-! AN HOUR -/
/-- him now -/
def s0 (S : M2) : St := (gI S 5 0, gI S 5 1, gI S 5 2, gI S 5 3)
def tmV (S : M2) : Int32 := gI S 5 6
def lmS (S : M2) (s : St) (v : Int32) : Bool := decide (v = 15) || (decide (v = s.2.2.1) && !decide (s.2.1 < tmV S))
def agS (S : M2) (s : St) : St := (s.1, imn 9 (s.2.1 + gI S 5 4), s.2.2.1, md (s.2.2.2 + 1) 24)
def goV (S : M2) (s : St) (r v : Int32) : St := (md (s.1 + v + r) 16, imn 9 (s.2.1 + gI S 5 4), v, md (s.2.2.2 + 1) 24)
def muV (S : M2) (s : St) (v : Int32) : Int32 := bif lmS S s v then v + 16 else v
/-- a him in the class -/
def HW (S M : M2) (h : Nat) (s : St) : Prop := HS M h s (tmV S) ∧ gI M h 4 = gI S 5 4 ∧ gI M h 5 = gI S 5 5
theorem HW_a {S M M' : M2} {h : Nat} {s : St} (e : ∀ j, gI M' h j = gI M h j) (k : HW S M h s) : HW S M' h s := by
  unfold HW HS
  rw [e, e, e, e, e, e, e]
  exact k
def SB (s : St) : Prop := ix s.1 < 16 ∧ ix s.2.1 < 10 ∧ ix s.2.2.1 < 16 ∧ ix s.2.2.2 < 24
theorem sayL_lt {sg ak en : Nat → Int32} {s : St} {t r : Int32} : ∀ n i a, ix (sayL sg ak en s t r n i a) < 16 := by
  intro n
  induction n with
  | zero => intro i a; show ix (0 : Int32) < 16; decide
  | succ n ih =>
    intro i a
    unfold sayL
    cases (decide (ix (ak i) = a) || !decide (evl sg s t r a (ix (ak i)) = 0)) with
    | true => exact ix_15 _
    | false => exact ih _ _
theorem sayV_lt {b : Bool} {S : M2} {s : St} {t r : Int32} : ix (sayV b S s t r) < 16 := by
  unfold sayV
  cases decide (gI S (nwC b) 4 = 0) with
  | true => exact ix_15 _
  | false => exact sayL_lt _ _ _
theorem imn9_lt {x : Int32} (h : ix x < 2 ^ 31) : ix (imn 9 x) < 10 := by
  unfold imn
  by_cases q : x < 9
  · rw [if_pos q]
    rw [ix_ltI h (by decide), show ix 9 = 9 from rfl] at q
    omega
  · rw [if_neg q]; decide
theorem SB_go {S : M2} (hH : HimW S 5) {s : St} (h : SB s) {r v : Int32} (hv : ix v < 16) (hr : ix r < 10) : SB (goV S s r v) := by
  have h4 : ix (gI S 5 4) < 4 := hH 4 (by decide)
  have a1 : ix (s.1 + v) = ix s.1 + ix v := ix_add (by have := h.1; omega)
  have a2 : ix (s.1 + v + r) = ix s.1 + ix v + ix r := by rw [ix_add (by rw [a1]; have := h.1; omega), a1]
  have a3 : ix (s.2.1 + gI S 5 4) = ix s.2.1 + ix (gI S 5 4) := ix_add (by have := h.2.1; omega)
  have a4 : ix (s.2.2.2 + 1) = ix s.2.2.2 + 1 := ix_add (y := 1) (by have := h.2.2.2; rw [show ix 1 = 1 from rfl]; omega)
  have b1 := h.1
  have b2 := h.2.1
  have b3 := h.2.2.2
  refine ⟨?_, imn9_lt (by rw [a3]; omega), hv, ?_⟩
  · show ix (md (s.1 + v + r) 16) < 16
    rw [md_ix (n := 16) (m := 16) rfl (by decide) (by rw [a2]; omega)]
    omega
  · show ix (md (s.2.2.2 + 1) 24) < 24
    rw [md_ix (n := 24) (m := 24) rfl (by decide) (by rw [a4]; omega)]
    omega
theorem SB_0 {S : M2} (hH : HimW S 5) : SB (s0 S) := ⟨hH 0 (by decide), hH 1 (by decide), hH 2 (by decide), hH 3 (by decide)⟩
theorem nin2 {h : Nat} (hk : kd h = 3) : nin [17] h = true := by
  unfold nin nin
  have : Nat.beq h 17 = false := by
    cases hb : Nat.beq h 17 with
    | false => rfl
    | true =>
      have := Nat.eq_of_beq_eq_true hb
      subst this
      exact absurd hk (by decide)
  rw [this]; rfl
section HOUR
variable {d : Nat} {b : Bool} {S : M2}
theorem c72 {f : Int32 → Mm → Prop} {h : Nat} {v : Int32} {s : St} {N : M2} (hd : 1 ≤ d) (hr : h < 107) (hk : kd h = 3) (hs : HW S N h s) (k : f (bI (lmS S s v)) (FR b, N)) : WP d 107 72 0 [.ref h, .int v] [] 107 (FR b, N) (rI f) := by
  obtain ⟨d, rfl⟩ := ex1 hd
  unfold lmS at k
  refine v72_0 ?_
  rw [hs.1.2.2.1, hs.1.2.1, hs.1.2.2.2.2]
  refine brK_d (fun z => ?_) (fun z => oK_i hr hk (brK_d (fun z2 => oK_i hr hk (oK_i hr hk (brK_n (fun z3 => ?_) (fun z3 => ?_)))) (fun z2 => ?_)))
  · rw [z] at k; exact k
  · rw [z, z2, z3] at k; exact k
  · rw [z, z2, z3] at k; exact k
  · rw [z, z2] at k; exact k
theorem c73 {g : Mm → Prop} {h : Nat} {s : St} {N : M2} (hd : 1 ≤ d) (hr : h < 107) (hk : kd h = 3) (hs : HW S N h s) (k : ∀ N', agr (fr [h]) N N' → HW S N' h (agS S s) → g (FR b, N')) : WP d 107 73 0 [.ref h] [] 107 (FR b, N) (rV g) := by
  obtain ⟨d, rfl⟩ := ex1 hd
  have hh : nin [h] h = false := by unfold nin; rw [Nat.beq_refl]; rfl
  refine v73_0 (oK_i hr hk (oK_i hr hk (oK_i hr hk (oK_i hr hk (oK_i hr hk ?_)))))
  rw [sF_eq, sF_eq, hs.1.2.1, hs.2.1, hs.1.2.2.2.1]
  refine k _ (agr_sI hh (agr_sI hh (agr_r N))) ?_
  unfold HW HS
  simp [gI_if]
  exact ⟨⟨hs.1.1, rfl, hs.1.2.2.1, rfl, hs.1.2.2.2.2⟩, hs.2⟩
theorem c68 {g : Mm → Prop} {h : Nat} {N : M2} (hd : 1 ≤ d) (hr : h < 107) (hk : kd h = 3) (h5 : h ≠ 5) (hA : agr (pC b) S N) (k : ∀ N', agr (fr [h]) N N' → HW S N' h (s0 S) → g (FR b, N')) : WP d 107 68 0 [.ref h, .ref 5] [] 107 (FR b, N) (rV g) := by
  obtain ⟨d, rfl⟩ := ex1 hd
  have hh : nin [h] h = false := by unfold nin; rw [Nat.beq_refl]; rfl
  have e : ∀ j, gI N 5 j = gI S 5 j := fun j => agr_nI hA rfl
  have k5 : oK 107 5 3 = fun P => P := rfl
  refine v68_0 ?_
  simp only [k5, sF_eq, e]
  refine oK_i hr hk (oK_i hr hk (oK_i hr hk (oK_i hr hk (oK_i hr hk (oK_i hr hk (oK_i hr hk ?_))))))
  refine k _ (agr_sI hh (agr_sI hh (agr_sI hh (agr_sI hh (agr_sI hh (agr_sI hh (agr_sI hh (agr_r N)))))))) ?_
  refine ⟨⟨?_, ?_, ?_, ?_, ?_⟩, ?_, ?_⟩ <;> simp [gI_if, s0, tmV]
theorem fr17_pC {N N' : M2} (h : agr (fr [17]) N N') : agr (pC b) N N' := fr_m (fun a ha j => by rw [List.mem_singleton.mp ha]; exact pC17 b j) h
theorem c71 {f : Int32 → Mm → Prop} {h : Nat} {s : St} {r : Int32} {N : M2} (hd : 4 ≤ d) (hr : h < 107) (hk : kd h = 3) (hL : LawR b S) (hA : agr (pC b) S N) (hs : HW S N h s) (k : ∀ N', agr (fr [17, h]) N N' → HW S N' h (goV S s r (sayV b S s (tmV S) r)) → f (muV S s (sayV b S s (tmV S) r)) (FR b, N')) : WP d 107 71 0 [.ref h, .ref 7, .int r, U, U] [] 107 (FR b, N) (rI f) := by
  obtain ⟨d, rfl⟩ := ex1 (e := 3) hd
  have h17 := nin2 hk
  have h1 : nin [17, h] h = false := by unfold nin nin; rw [Nat.beq_refl]; simp
  refine v71_0 (c60 (by omega) hr hk hL hA hs.1 (fun N1 hN1 => ⟨rfl, oK_i hr hk ?_⟩))
  have hs1 : HW S N1 h s := HW_a (fun j => (hN1 h j h17).1) hs
  refine c72 (by omega) hr hk hs1 ⟨rfl, oK_i hr hk (oK_i hr hk (oK_i hr hk (oK_i hr hk ?_)))⟩
  dsimp only
  rw [sF_eq, sF_eq, hs1.1.1]
  have hs2 : HW S (sI (sI N1 h 0 (md (s.1 + sayV b S s (tmV S) r + r) 16)) h 2 (sayV b S s (tmV S) r)) h (md (s.1 + sayV b S s (tmV S) r + r) 16, s.2.1, sayV b S s (tmV S) r, s.2.2.2) := by
    unfold HW HS
    simp [gI_if]
    exact ⟨⟨hs1.1.2.1, hs1.1.2.2.2⟩, hs1.2⟩
  refine c73 (S := S) (by omega) hr hk hs2 (fun N2 hN2 hs3 => ⟨rfl, ?_⟩)
  have hF : agr (fr [17, h]) N N2 := agr_t (agr_t (fr_s (by unfold nin nin; intro a ha; rw [List.mem_singleton.mp ha]; rfl) hN1) (agr_sI h1 (agr_sI h1 (agr_r N1)))) (fr_s (by intro a ha; rw [List.mem_singleton.mp ha]; exact h1) hN2)
  have k2 := k N2 hF hs3
  unfold muV at k2
  refine brK_b (fun z => ?_) (fun z => ?_)
  · rw [z] at k2; exact k2
  · rw [z] at k2; exact k2
/-! the reference's -/
def MS (M : M2) (s : St) : Prop := gI M 67 29 = s.1 ∧ gI M 67 30 = s.2.1 ∧ gI M 67 31 = s.2.2.1 ∧ gI M 67 32 = s.2.2.2
def frh : Nat → Nat → Bool := fun r j => nin [84, 85] r && !(Nat.beq r 67 && (Nat.ble 29 j && Nat.ble j 34))
theorem frh_pC {b : Bool} {N N' : M2} (h : agr frh N N') : agr (pC b) N N' := by
  refine agr_m (fun r j hq => ?_) h
  unfold frh
  have h1 : nin [84, 85] r = true := nin_c (q := pC b) (fun a ha j => by
    rcases List.mem_cons.mp ha with e | e
    · rw [e]; exact pC84 b j
    · rw [List.mem_singleton.mp e]; exact pC85 b j) r j hq
  rw [h1]
  cases h67 : Nat.beq r 67 with
  | false => rfl
  | true =>
    have := Nat.eq_of_beq_eq_true h67
    subst this
    have hq2 : slot67 j = true := hq
    cases hj : (Nat.ble 29 j && Nat.ble j 34) with
    | false => rfl
    | true =>
      rw [Bool.and_eq_true] at hj
      have j1 := Nat.le_of_ble_eq_true hj.1
      have j2 := Nat.le_of_ble_eq_true hj.2
      have : j = 29 ∨ j = 30 ∨ j = 31 ∨ j = 32 ∨ j = 33 ∨ j = 34 := by omega
      rcases this with e | e | e | e | e | e <;> subst e <;> exact absurd hq2 (by decide)
theorem e68r (hI : INV b S) {N : M2} (hA : agr (pRf b) S N) {j : Nat} (hj : j < 7) : gI N 68 j = gI S 5 j := (agr_nI hA rfl).trans (hI.2.1.2 j hj)
theorem c222r {g : Mm → Prop} {N : M2} (hd : 1 ≤ d) (hI : INV b S) (hA : agr (pRf b) S N) (k : ∀ N', agr frh N N' → MS N' (s0 S) → gI N' 67 33 = -2 → g (FR b, N')) : WP d 107 222 0 [.ref 67] [] 107 (FR b, N) (rV g) := by
  obtain ⟨d, rfl⟩ := ex1 hd
  refine v222_0 ?_
  rw [e68r hI hA (by decide), e68r hI hA (by decide), e68r hI hA (by decide), e68r hI hA (by decide)]
  refine k _ (agr_sI rfl (agr_sI rfl (agr_sI rfl (agr_sI rfl (agr_sI rfl (agr_sI rfl (agr_r N))))))) ?_ ?_
  · unfold MS
    simp [gI_if]
    exact ⟨rfl, rfl, rfl, rfl⟩
  · simp [gI_if]
theorem c226r {f : Int32 → Mm → Prop} {v l g : Int32} {s : St} {N : M2} (hd : 1 ≤ d) (hI : INV b S) (hA : agr (pRf b) S N) (h1 : l = s.2.2.1) (h2 : g = s.2.1) (k : f (bI (lmS S s v)) (FR b, N)) : WP d 107 226 0 [.ref 67, .int v, .int l, .int g] [] 107 (FR b, N) (rI f) := by
  obtain ⟨d, rfl⟩ := ex1 hd
  subst h1 h2
  unfold lmS tmV at k
  refine v226_0 ?_
  rw [e68r hI hA (by decide)]
  refine brK_d (fun z => ?_) (fun z => brK_d (fun z2 => brK_n (fun z3 => ?_) (fun z3 => ?_)) (fun z2 => ?_))
  · rw [z] at k; exact k
  · rw [z, z2, z3] at k; exact k
  · rw [z, z2, z3] at k; exact k
  · rw [z, z2] at k; exact k
theorem imn9 {x : Int32} : (x ≤ 9 → imn 9 x = x) ∧ (¬ x ≤ 9 → imn 9 x = 9) := by
  unfold imn
  constructor
  · intro h
    by_cases q : x < 9
    · rw [if_pos q]
    · rw [if_neg q]
      apply i_eq.mpr
      rw [i_le] at h
      rw [i_lt] at q
      omega
  · intro h
    rw [if_neg (fun q => h (by rw [i_lt] at q; rw [i_le]; omega))]
theorem c225r {g : Mm → Prop} {s : St} {r : Int32} {N : M2} (hd : 5 ≤ d) (hI : INV b S) (hA : agr (pRf b) S N) (hs : MS N s) (k : ∀ N', agr frh N N' → MS N' (goV S s r (sayV b S s (tmV S) r)) → gI N' 67 33 = sayV b S s (tmV S) r → gI N' 67 34 = bI (lmS S s (sayV b S s (tmV S) r)) → g (FR b, N')) : WP d 107 225 0 [.ref 67, .int r] [] 107 (FR b, N) (rV g) := by
  obtain ⟨d, rfl⟩ := ex1 (e := 4) hd
  have hL : LawR b S := hI.2.2.2.2.2.2.2.2.2
  have e6 : gI S 68 6 = tmV S := hI.2.1.2 6 (by decide)
  refine v225_0 ?_
  rw [hs.1, hs.2.1, hs.2.2.1, hs.2.2.2]
  refine c215r (S := S) (by omega) hL hA (fun N1 hN1 => ⟨rfl, ?_⟩)
  rw [e6]
  have f1 : agr frh N N1 := agr_m (fun r j h => by unfold frh at h; rw [Bool.and_eq_true] at h; exact h.1) hN1
  have hA1 : agr (pRf b) S N1 := agr_t hA (pR_le (frh_pC f1))
  dsimp only
  have g29 : gI N1 67 29 = s.1 := (hN1 67 29 rfl).1.trans hs.1
  have g30 : gI N1 67 30 = s.2.1 := (hN1 67 30 rfl).1.trans hs.2.1
  have g31 : gI N1 67 31 = s.2.2.1 := (hN1 67 31 rfl).1.trans hs.2.2.1
  have g32 : gI N1 67 32 = s.2.2.2 := (hN1 67 32 rfl).1.trans hs.2.2.2
  have e4 : gI N1 68 4 = gI S 5 4 := e68r hI hA1 (by decide)
  show WP d 107 226 0 [.ref 67, .int (sayV b S s (tmV S) r), .int (gI N1 67 31), .int (gI N1 67 30)] [] 107 (FR b, sI N1 67 33 (sayV b S s (tmV S) r)) _
  generalize hv : sayV b S s (tmV S) r = v at k ⊢
  refine c226r (S := S) (s := s) (by omega) hI (agr_sI rfl hA1) g31 g30 ⟨rfl, iK_b ?_⟩
  dsimp only
  have h29 : gI (sI N1 67 33 v) 67 29 = s.1 := g29
  have h30 : gI (sI N1 67 33 v) 67 30 = s.2.1 := g30
  have h32 : gI (sI N1 67 33 v) 67 32 = s.2.2.2 := g32
  have h33 : gI (sI N1 67 33 v) 67 33 = v := gI_s ..
  have h4 : gI (sI N1 67 33 v) 68 4 = gI S 5 4 := e4
  rw [h29, h30, h32, h33, h4]
  have fin : ∀ w, w = imn 9 (s.2.1 + gI S 5 4) → g (FR b, sI (sI (sI (sI (sI (sI N1 67 33 v) 67 34 (bI (lmS S s v))) 67 29 (md (s.1 + v + r) 16)) 67 31 v) 67 30 w) 67 32 (md (s.2.2.2 + 1) 24)) := by
    intro w hw
    refine k _ (agr_sI rfl (agr_sI rfl (agr_sI rfl (agr_sI rfl (agr_sI rfl (agr_sI rfl f1)))))) ?_ ?_ ?_
    · unfold MS
      simp [gI_if]
      exact ⟨rfl, hw, rfl, rfl⟩
    · simp [gI_if]
    · simp [gI_if]
  exact ⟨fun h => fin _ (imn9.1 h).symm, fun h => fin _ (imn9.2 h).symm⟩
theorem e68 (hI : INV b S) {N : M2} (hA : agr (pC b) S N) {j : Nat} (hj : j < 7) : gI N 68 j = gI S 5 j := e68r hI (pR_le hA) hj
theorem c222 {g : Mm → Prop} {N : M2} (hd : 1 ≤ d) (hI : INV b S) (hA : agr (pC b) S N) (k : ∀ N', agr frh N N' → MS N' (s0 S) → gI N' 67 33 = -2 → g (FR b, N')) : WP d 107 222 0 [.ref 67] [] 107 (FR b, N) (rV g) := c222r hd hI (pR_le hA) k
theorem c226 {f : Int32 → Mm → Prop} {v l g : Int32} {s : St} {N : M2} (hd : 1 ≤ d) (hI : INV b S) (hA : agr (pC b) S N) (h1 : l = s.2.2.1) (h2 : g = s.2.1) (k : f (bI (lmS S s v)) (FR b, N)) : WP d 107 226 0 [.ref 67, .int v, .int l, .int g] [] 107 (FR b, N) (rI f) := c226r hd hI (pR_le hA) h1 h2 k
theorem c225 {g : Mm → Prop} {s : St} {r : Int32} {N : M2} (hd : 5 ≤ d) (hI : INV b S) (hA : agr (pC b) S N) (hs : MS N s) (k : ∀ N', agr frh N N' → MS N' (goV S s r (sayV b S s (tmV S) r)) → gI N' 67 33 = sayV b S s (tmV S) r → gI N' 67 34 = bI (lmS S s (sayV b S s (tmV S) r)) → g (FR b, N')) : WP d 107 225 0 [.ref 67, .int r] [] 107 (FR b, N) (rV g) := c225r hd hI (pR_le hA) hs k
end HOUR
