section RREAD4
variable {d : Nat} {b : Bool} {tp : Nat → Int32} {n p l : Nat} {cd : LC} {N : M2} {f : Int32 → Mm → Prop} {g : Mm → Prop} {E : PF} {o flt : Int32}
def LK (N : M2) (ls : LNS) : Prop := gI N 81 1 = nI ls.length ∧ ∀ i, i < ls.length → gI N 82 (61 + i) = nI (lsB ls i).1 ∧ gI N 83 (61 + i) = nI (lsB ls i).2
def frQ : Nat → Nat → Bool := fun r j => frR r j && (!(Nat.beq r 82 && Nat.ble 61 j) && (!(Nat.beq r 83 && Nat.ble 61 j) && !(Nat.beq r 81 && Nat.beq j 1)))
theorem frR_Q {N' : M2} (h : agr frR N N') : agr frQ N N' := agr_m (fun r j q => by unfold frQ at q; rw [Bool.and_eq_true] at q; exact q.1) h
theorem LK_a {N' : M2} {ls : LNS} (h : agr frR N N') (q : LK N ls) : LK N' ls := ⟨(agr_nI h rfl).trans q.1, fun i hi => ⟨(agr_nI h rfl).trans (q.2 i hi).1, (agr_nI h rfl).trans (q.2 i hi).2⟩⟩
theorem i16_v : ∀ t, t < 256 → (nI t).toInt16.toInt32 = nI t := by decide +kernel
theorem RS_x {N' : M2} (h : ∀ j, gI N' 67 j = gI N 67 j) (h2 : ∀ j, gI N' 78 j = gI N 78 j) (q : RS tp n N p o l flt) : RS tp n N' p o l flt := ⟨(h _).trans q.1, fun j hj => (h2 j).trans (q.2.1 j hj), (h _).trans q.2.2.1, (h _).trans q.2.2.2.1, (h _).trans q.2.2.2.2.1, (h _).trans q.2.2.2.2.2⟩
theorem SK_x {N' : M2} (h : ∀ j, gI N' 79 j = gI N 79 j) (h2 : ∀ j, gI N' 80 j = gI N 80 j) (q : SK N cd) : SK N' cd := fun j hj => by rw [h, h2]; exact q j hj
/-- what a line leaves -/
def RLn (tp : Nat → Int32) (n : Nat) (N : M2) (r : PR) (ls : LNS) (o : Int32) : Prop := (r.1 = true ∧ RS tp n N r.2.1 o r.2.2.length (-1) ∧ SK N r.2.2 ∧ LK N ls) ∨ ((r.1 = true → isDg (bH tp n r.2.1) = true) ∧ ∃ o' l', RS tp n N r.2.1 o' l' (nI r.2.1))
theorem k200 {ls : LNS} (hn : n ≤ 120) (ht : ∀ j, j < 120 → ix (tp j) < 256) (hX : PFok n E) (hT : RTX b tp n E 201 61 [.ref 67] o) (hd : 62 ≤ d) (hR : RS tp n N p o cd.length (-1)) (hS : SK N cd) (hK : LK N ls) (hls : ls.length ≤ 60) (hp : p ≤ n) (hl : cd.length ≤ p) (k : ∀ N', agr frQ N N' → RLn tp n N' (liP (bH tp n) E p cd).1 (ls ++ [((liP (bH tp n) E p cd).2, (liP (bH tp n) E p cd).1.2.2.length)]) o → g (FR b, N')) : WP d 107 200 0 [.ref 67, U] [] 107 (FR b, N) (rV g) := by
  obtain ⟨d, rfl⟩ := ex1 (e := 61) hd
  have e61 : (61 : Int32) + nI ls.length = nI (61 + ls.length) := nI_add 61 ls.length
  have ei : ix (nI (61 + ls.length)) = 61 + ls.length := ix_n (by omega)
  have i16 : ∀ t, t ≤ 120 → (nI t).toInt16.toInt32.toInt16.toInt32 = nI t := fun t h => by rw [i16_v t (by omega), i16_v t (by omega)]
  have lo := li_ok (tp := tp) (cd := cd) hX hp hl
  have s0 := st_ok (cd := cd) hX hp hl
  -- the end of the line
  have fin : ∀ (N1 : M2) (r : PR) (a : Nat), r.2.1 ≤ n → r.2.2.length ≤ r.2.1 → agr frQ N N1 → gI N1 81 1 = nI ls.length → ((r.1 = true ∧ RS tp n N1 r.2.1 o r.2.2.length (-1) ∧ SK N1 r.2.2 ∧ (∀ i, i < ls.length → gI N1 82 (61 + i) = nI (lsB ls i).1 ∧ gI N1 83 (61 + i) = nI (lsB ls i).2) ∧ gI N1 82 (61 + ls.length) = nI a) ∨ ((r.1 = true → isDg (bH tp n r.2.1) = true) ∧ ∃ o' l', RS tp n N1 r.2.1 o' l' (nI r.2.1))) → (∀ N', agr frQ N N' → RLn tp n N' r (ls ++ [(a, r.2.2.length)]) o → g (FR b, N')) → WP (d + 1) 107 200 66 [.ref 67, .int (nI (61 + ls.length))] [] 107 (FR b, N1) (rV g) := by
    intro N1 r a hrp hrl hN h81 h q
    refine v200_66 (iK_i (by rw [ei]; omega) ?_)
    rw [ei, h81, nI_1]
    have hA : agr frQ N (sI (sI N1 83 (61 + ls.length) (gI N1 67 20).toInt16.toInt32.toInt16.toInt32) 81 1 (nI (ls.length + 1))) := agr_sI rfl (agr_sI (by unfold frQ; rw [ble_t (show 61 ≤ 61 + ls.length by omega)]; rfl) hN)
    rcases h with ⟨h1, h2, h3, h4, h5⟩ | ⟨h1, o', l', h2⟩
    · have hA' := hA
      rw [h2.2.2.2.2.2, i16 _ (by omega)] at hA ⊢
      refine q _ hA (Or.inl ⟨h1, RS_x (fun j => (gI_or (by decide)).trans (gI_or (by decide))) (fun j => (gI_or (by decide)).trans (gI_or (by decide))) h2, SK_x (fun j => (gI_or (by decide)).trans (gI_or (by decide))) (fun j => (gI_or (by decide)).trans (gI_or (by decide))) h3, ?_, fun i hi => ?_⟩)
      · rw [gI_s, List.length_append]; rfl
      · rw [List.length_append] at hi
        have hi : i < ls.length + 1 := hi
        rw [gI_or (a := 82) (r := 81) (by decide), gI_or (a := 82) (r := 83) (by decide), gI_or (a := 83) (r := 81) (by decide)]
        by_cases e : i = ls.length
        · subst e
          rw [gI_s, lsB_e]
          exact ⟨h5, rfl⟩
        · rw [gI_oj (show 61 + i ≠ 61 + ls.length by omega), lsB_l (by omega)]
          exact h4 i (by omega)
    · exact q _ hA (Or.inr ⟨h1, o', l', RS_x (fun j => (gI_or (by decide)).trans (gI_or (by decide))) (fun j => (gI_or (by decide)).trans (gI_or (by decide))) h2⟩)
  refine v200_0 ?_
  rw [hK.1, e61, ei, hR.2.2.2.2.2, i16 _ (by omega)]
  refine iK_i (by omega) ?_
  have hA0 : agr frQ N (sI N 82 (61 + ls.length) (nI cd.length)) := agr_sI (by unfold frQ; rw [ble_t (show 61 ≤ 61 + ls.length by omega)]; rfl) (agr_r N)
  have hS0 : SK (sI N 82 (61 + ls.length) (nI cd.length)) cd := SK_x (fun j => gI_or (by decide)) (fun j => gI_or (by decide)) hS
  refine hT d p cd _ _ (by omega) (RS_x (fun j => gI_or (by decide)) (fun j => gI_or (by decide)) hR) hS0 hp hl (fun N1 hN1 hr1 => ⟨rfl, ?_⟩)
  have h81 : gI N1 81 1 = nI ls.length := (agr_nI hN1 rfl).trans ((gI_or (by decide)).trans hK.1)
  have hl2 : ∀ i, i < ls.length → gI N1 82 (61 + i) = nI (lsB ls i).1 ∧ gI N1 83 (61 + i) = nI (lsB ls i).2 := fun i hi => ⟨(agr_nI hN1 rfl).trans ((gI_oj (by omega)).trans (hK.2 i hi).1), (agr_nI hN1 rfl).trans ((gI_or (by decide)).trans (hK.2 i hi).2)⟩
  have hq : gI N1 82 (61 + ls.length) = nI cd.length := (agr_nI hN1 rfl).trans (gI_s ..)
  have hAN : agr frQ N N1 := agr_t hA0 (frR_Q hN1)
  unfold liP at k
  rcases hr1 with ⟨h1, h2, h3⟩ | ⟨h1, o', l', h2, _⟩
  · rw [h1] at k
    refine brK_f (by dsimp only; rw [h2.2.2.2.1]; decide) (k207 (by omega) hn s0.1 h2 ⟨rfl, ⟨fun y => ?_, fun y => ?_⟩⟩)
    · have y' := (rB_c (fun h => ht _ (by omega)) (by decide)).mp y
      have hlt := Bn (B := bH tp n) bHok y' (by decide)
      rw [decide_eq_true y'] at k
      have k : ∀ N', agr frQ N N' → RLn tp n N' (E ((E p cd).2.1 + 1) (E p cd).2.2) (ls ++ [((E p cd).2.2.length, (E ((E p cd).2.1 + 1) (E p cd).2.2).2.2.length)]) o → g (FR b, N') := k
      dsimp only
      refine iK_i (by omega) ?_
      rw [h2.2.2.1, h2.2.2.2.2.2, i16 _ (by have := s0.2; have := s0.1; omega), nI_1]
      have hA2 : agr frQ N1 (sI (sI N1 67 17 (nI ((E p cd).2.1 + 1))) 82 (61 + ls.length) (nI (E p cd).2.2.length)) := agr_sI (by unfold frQ; rw [ble_t (show 61 ≤ 61 + ls.length by omega)]; rfl) (frR_Q (frR7 (by decide) (by decide)))
      refine hT d ((E p cd).2.1 + 1) (E p cd).2.2 _ _ (by omega) (RS_x (fun j => gI_or (by decide)) (fun j => gI_or (by decide)) (RS_p h2)) (SK_x (fun j => gI_or (by decide)) (fun j => gI_or (by decide)) (SK_7 h3)) hlt (by have := s0.2; omega) (fun N2 hN2 hr2 => ⟨rfl, ?_⟩)
      have s1 := st_ok (cd := (E p cd).2.2) hX hlt (by have := s0.2; omega)
      refine fin N2 (E ((E p cd).2.1 + 1) (E p cd).2.2) (E p cd).2.2.length s1.1 s1.2 (agr_t hAN (agr_t hA2 (frR_Q hN2))) ?_ ?_ k
      · exact (agr_nI hN2 rfl).trans ((gI_or (by decide)).trans ((gI_or (by decide)).trans h81))
      · rcases hr2 with ⟨g1, g2, g3⟩ | ⟨g1, o', l', g2, _⟩
        · refine Or.inl ⟨g1, g2, g3, fun i hi => ⟨(agr_nI hN2 rfl).trans ((gI_oj (by omega)).trans ((gI_or (by decide)).trans (hl2 i hi).1)), (agr_nI hN2 rfl).trans ((gI_or (by decide)).trans ((gI_or (by decide)).trans (hl2 i hi).2))⟩, (agr_nI hN2 rfl).trans (gI_s ..)⟩
        · exact Or.inr ⟨g1, o', l', g2⟩
    · have y' : ¬ bH tp n (E p cd).2.1 = 63 := fun e => y ((rB_c (fun h => ht _ (by omega)) (by decide)).mpr e)
      rw [decide_eq_false y'] at k
      exact fin N1 (E p cd) cd.length s0.1 s0.2 hAN h81 (Or.inl ⟨h1, h2, h3, hl2, hq⟩) k
  · refine brK_t (by dsimp only; rw [h2.2.2.2.1]; exact nn_p (by have := s0.1; omega)) ?_
    cases z : (E p cd).1 with
    | false =>
      rw [z] at k
      exact fin N1 (E p cd) 0 s0.1 s0.2 hAN h81 (Or.inr ⟨h1, o', l', h2⟩) (fun N' h h' => k N' h (by
        rcases h' with q | q
        · rw [z] at q; exact absurd q.1 (by decide)
        · exact Or.inr q))
    | true =>
      have dg := h1 z
      rw [z, decide_eq_false (fun e => by rw [e] at dg; exact absurd dg (by decide))] at k
      exact fin N1 (E p cd) cd.length s0.1 s0.2 hAN h81 (Or.inr ⟨h1, o', l', h2⟩) k
theorem HRL_ne {s : LC} (h : HRL s) : 1 ≤ s.length := by
  cases s with
  | nil => have := h 0; exact absurd this (by decide)
  | cons x s => show 1 ≤ s.length + 1; omega
theorem E_lt (hX : PFok n E) (hp : p ≤ n) (h : (E p cd).1 = true) : p + 1 ≤ (E p cd).2.1 := by
  obtain ⟨seg, h1, h2, h3, h4, h5⟩ := hX p cd hp
  have := HRL_ne (h5 h)
  omega
theorem li_lt (hX : PFok n E) (hp : p ≤ n) (h : (liP (bH tp n) E p cd).1.1 = true) : p + 1 ≤ (liP (bH tp n) E p cd).1.2.1 := by
  unfold liP at h ⊢
  cases z : (E p cd).1 with
  | false => rw [z] at h; exact Bool.noConfusion (show false = true from z ▸ h)
  | true =>
    have h1 := E_lt hX hp z
    rw [z] at h
    cases y : decide (bH tp n (E p cd).2.1 = 63) with
    | false => exact h1
    | true =>
      rw [y] at h
      have hlt := Bn (B := bH tp n) bHok (of_decide_eq_true y) (by decide)
      have := E_lt (p := (E p cd).2.1 + 1) (cd := (E p cd).2.2) hX hlt h
      show p + 1 ≤ (E ((E p cd).2.1 + 1) (E p cd).2.2).2.1
      omega
theorem l199 {N0 : M2} {u2 : Value} (hn : n ≤ 120) (ht : ∀ j, j < 120 → ix (tp j) < 256) (hX : PFok n E) (hT : RTX b tp n E 201 61 [.ref 67] o) (hd : 62 ≤ d) : ∀ m p cd (ls : LNS) (N : M2), ls.length + m = 60 → 2 * ls.length ≤ p → p ≤ n → cd.length ≤ p → RS tp n N p o cd.length (-1) → SK N cd → LK N ls → agr frQ N0 N → ((pdP (bH tp n) n E m p cd ls).1 = false → ∀ N', agr frQ N0 N' → f (nI (pdP (bH tp n) n E m p cd ls).2.1) (FR b, sI N' 67 16 0)) → ((pdP (bH tp n) n E m p cd ls).1 = true → ∀ N', agr frQ N0 N' → RS tp n N' (pdP (bH tp n) n E m p cd ls).2.1 o (pdP (bH tp n) n E m p cd ls).2.2.1.length (-1) → SK N' (pdP (bH tp n) n E m p cd ls).2.2.1 → LK N' (pdP (bH tp n) n E m p cd ls).2.2.2 → WP (d + 1) 107 199 105 [.ref 67, .int 0, .int 0] [] 107 (FR b, sI N' 67 16 0) (rI f)) → WP d 107 200 0 [.ref 67, U] [] 107 (FR b, N) (rV (fun N3 => N3.1 = FR b ∧ (WP (d + 1) 107 199 31 [.ref 67, .int 0, u2] [] 107 (FR b, N3.2) (rI f)))) := by
  have fault : ∀ (N : M2) (r : Nat) (o' : Int32) (l' : Nat), r ≤ n → RS tp n N r o' l' (nI r) → f (nI r) (FR b, sI N 67 16 0) → WP (d + 1) 107 199 31 [.ref 67, .int 0, u2] [] 107 (FR b, N) (rI f) := by
    intro N r o' l' hr hR q
    have z := nn_p (p := r) (by omega)
    refine v199_31 (brK_t (by rw [hR.2.2.2.1]; exact z) (v199_64 (brK_t (by rw [hR.2.2.2.1]; exact z) (brK_f (by
      rw [hR.2.2.2.1]
      rw [i_le] at z
      rw [i_lt]
      omega) ?_))))
    rw [hR.2.2.2.1]
    exact q
  intro m
  induction m with
  | zero =>
    intro p cd ls N hm h2 hp hl hR hS hK hN q0 q1
    have q0 : ∀ N', agr frQ N0 N' → f (nI p) (FR b, sI N' 67 16 0) := q0 rfl
    refine k200 hn ht hX hT (by omega) hR hS hK (by omega) hp hl (fun N1 hN1 hr => ⟨rfl, ?_⟩)
    have lo := li_ok (tp := tp) (cd := cd) hX hp hl
    rcases hr with ⟨g1, g2, g3, g4⟩ | ⟨g1, o', l', g2⟩
    · have := li_lt (tp := tp) hX hp g1
      omega
    · have ep : (liP (bH tp n) E p cd).1.2.1 = p := by
        have : p ≤ (liP (bH tp n) E p cd).1.2.1 := by
          obtain ⟨seg, h1, h2, _⟩ := hX p cd hp
          unfold liP
          cases z : (E p cd).1 with
          | false => exact h2
          | true => have := E_lt hX hp z; have := (hX p cd hp).choose_spec.2.2.1; omega
        omega
      rw [ep] at g2
      exact fault N1 p o' l' hp g2 (q0 N1 (agr_t hN hN1))
  | succ m ih =>
    intro p cd ls N hm h2 hp hl hR hS hK hN q0 q1
    have lo := li_ok (tp := tp) (cd := cd) hX hp hl
    unfold pdP at q0 q1
    refine k200 hn ht hX hT (by omega) hR hS hK (by omega) hp hl (fun N1 hN1 hr => ⟨rfl, ?_⟩)
    have hNN := agr_t hN hN1
    rcases hr with ⟨g1, g2, g3, g4⟩ | ⟨g1, o', l', g2⟩
    · have hlt1 := li_lt (tp := tp) hX hp g1
      rw [g1] at q0 q1
      refine v199_31 (brK_f (by rw [g2.2.2.2.1]; decide) (k207 (by omega) hn lo.1 g2 ⟨rfl, ⟨fun y => ?_, fun y => v199_64 (brK_f (by dsimp only; rw [g2.2.2.2.1]; decide) ?_)⟩⟩))
      · have y' := (rB_c (fun h => ht _ (by omega)) (by decide)).mp y
        have hlt := Bn (B := bH tp n) bHok y' (by decide)
        rw [ble_f (by omega), decide_eq_true y'] at q0 q1
        dsimp only
        rw [g2.2.2.1, nI_1]
        exact ih ((liP (bH tp n) E p cd).1.2.1 + 1) (liP (bH tp n) E p cd).1.2.2 (ls ++ [((liP (bH tp n) E p cd).2, (liP (bH tp n) E p cd).1.2.2.length)]) _ (by rw [List.length_append, List.length_cons, List.length_nil]; omega) (by rw [List.length_append, List.length_cons, List.length_nil]; omega) hlt (by omega) (RS_p g2) (SK_7 g3) (LK_a (frR7 (by decide) (by decide)) g4) (agr_t hNN (frR_Q (frR7 (by decide) (by decide)))) q0 q1
      · have y' : ¬ bH tp n (liP (bH tp n) E p cd).1.2.1 = 59 := fun e => y ((rB_c (fun h => ht _ (by omega)) (by decide)).mpr e)
        dsimp only
        rw [g2.1, g2.2.2.1]
        refine ⟨fun x => ?_, fun x => ?_⟩
        · rw [nI_leI (by omega) (by omega)] at x
          rw [ble_t x] at q1
          exact brK_t (by rw [g2.2.2.2.1]; decide) (q1 rfl N1 hNN g2 g3 g4)
        · rw [nI_leI (by omega) (by omega)] at x
          rw [ble_f x, decide_eq_false y'] at q0
          refine k211 (by omega) g2 (fun z => absurd z (by decide)) (fun _ hR3 => ⟨rfl, brK_f ?_ ?_⟩)
          · dsimp only
            rw [gI_s]
            have z := nn_p (p := (liP (bH tp n) E p cd).1.2.1) (by omega)
            rw [i_le] at z
            rw [i_lt]
            omega
          · dsimp only
            rw [gI_s]
            exact q0 rfl _ (agr_t hNN (frR_Q (frR7 (by decide) (by decide))))
    · refine fault N1 _ o' l' lo.1 g2 ?_
      cases z : (liP (bH tp n) E p cd).1.1 with
      | false => rw [z] at q0; exact q0 rfl N1 hNN
      | true =>
        have dg := g1 z
        have hlt := dg_n (B := bH tp n) bHok dg
        rw [z, ble_f (by omega), decide_eq_false (fun e => by rw [e] at dg; exact absurd dg (by decide))] at q0
        exact q0 rfl N1 hNN
end RREAD4
