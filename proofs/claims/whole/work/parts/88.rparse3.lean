section RREAD3
variable {d : Nat} {b : Bool} {tp : Nat → Int32} {n p l : Nat} {cd : LC} {N : M2} {f : Int32 → Mm → Prop} {g : Mm → Prop} {X : PF} {o flt : Int32} {d0 : Nat}
theorem m1_lt : (-1 : Int32) < 0 := by decide
theorem R206 (hn : n ≤ 120) (ht : ∀ j, j < 120 → ix (tp j) < 256) : ∀ g, g ≤ 6 → RTX b tp n (opP (bH tp n) g) 206 (8 * g + 8) [.ref 67, U] (nI (6 - g)) := by
  have leaf : ∀ (Y : PF) (o : Int32) (d0 : Nat), 6 ≤ d0 →
    (∀ (d p : Nat) (cd : LC) (N : M2) (g : Mm → Prop), d0 ≤ d → RS tp n N p o cd.length (-1) → SK N cd → p ≤ n → cd.length ≤ p → (bH tp n p = 33 ∨ (bH tp n p = 45 ∧ ¬ bH tp n p = 33)) → rB tp n p = bH tp n p → p < n → (∀ N', agr frR N N' → RPb tp n p cd.length N' (Y p cd) o → g (FR b, N')) → WP (d + 1) 107 206 46 [.ref 67, .int (rB tp n p)] [] 107 (FR b, N) (rV g)) →
    (∀ (d p : Nat) (cd : LC) (N : M2) (g : Mm → Prop), d0 ≤ d → RS tp n N p o cd.length (-1) → SK N cd → p ≤ n → cd.length ≤ p → bH tp n p = 40 → p < n → (∀ N', agr frR N N' → RPb tp n p cd.length N' (Y p cd) o → g (FR b, N')) → WP d 107 210 0 [.ref 67] [] 107 (FR b, N) (rI (fun v7 N6 => N6.1 = FR b ∧ (brK (v7 = 0) (g (FR b, N6.2)) (WP d 107 201 0 [.ref 67] [] 107 (FR b, N6.2) (rV (fun N8 => N8.1 = FR b ∧ (brK ((gI N8.2 67 18) < 0) (WP d 107 207 0 [.ref 67] [] 107 (FR b, N8.2) (rI (fun v10 N9 => N9.1 = FR b ∧ (brK (v10 = 41) (g (FR b, sI (sI N9.2 67 17 ((gI N9.2 67 17) + 1)) 67 19 ((gI N9.2 67 19) - 1))) (WP d 107 211 0 [.ref 67] [] 107 (FR b, N9.2) (rV (fun N11 => N11.1 = FR b ∧ (g (FR b, N11.2))))))))) (g (FR b, N8.2)))))))))) →
    (∀ p cd, ¬ bH tp n p = 33 → ¬ bH tp n p = 45 → ¬ bH tp n p = 40 → Y p cd = (false, p, cd)) → RTX b tp n (lfP (bH tp n) Y) 206 (d0 + 1) [.ref 67, U] o := by
    intro Y o d0 h6 hN hP hF d p cd N g hd hR hS hp hl q
    obtain ⟨d, rfl⟩ := ex1 (e := d0) hd
    have rb : ∀ {c : Int32}, ix c < 128 → (rB tp n p = c ↔ bH tp n p = c) := fun hc => rB_c (fun h => ht _ (by omega)) hc
    have nm := rnm (p := p) ht hn hp
    unfold lfP at q
    refine v206_0 (k207 (by omega) hn hp hR ⟨rfl, k208 (by omega) ⟨rfl, ?_⟩⟩)
    rw [nm.1]
    cases z : isNm (bH tp n p) with
    | true =>
      have er := nm.2 z
      have hv := nm_v z
      have hlt := nm_n (B := bH tp n) bHok z
      rw [hv.2.2, z] at q
      have nn : ¬ (bif true then nmI (rB tp n p) else -1) < 0 := by
        show ¬ nmI (rB tp n p) < 0
        rw [er]
        have := hv.1
        rw [i_le] at this
        rw [i_lt]
        omega
      refine brK_f nn (k208 (by omega) ⟨rfl, ?_⟩)
      rw [nm.1, z, er]
      refine k209 (by omega) (by omega) (by decide) hR (fun N' hN' hR' e1 e2 e3 => ⟨rfl, ?_⟩)
      dsimp only
      rw [hR'.2.2.1, nI_1]
      refine q _ (agr_t hN' (frR7 (by decide) (by decide))) (Or.inl ⟨rfl, ?_, SK_7 (SK_add hS e1 e2 e3 (Or.inr (Or.inl ⟨z, rfl, rfl⟩)))⟩)
      show RS tp n (sI N' 67 17 (nI (p + 1))) (p + 1) o (cd ++ [bH tp n p]).length (-1)
      rw [List.length_append]
      exact RS_p hR'
    | false =>
      rw [z] at q
      refine brK_t m1_lt ?_
      refine ⟨fun h => ?_, fun h => ⟨fun h2 => ?_, fun h2 => ⟨fun h3 => ?_, fun h3 => ?_⟩⟩⟩
      · have e := (rb (by decide)).mp h
        have hlt := Bn (B := bH tp n) bHok e (by decide)
        rw [show isDg (bH tp n p) = false by rw [e]; rfl] at q
        exact hN d p cd N g (by omega) hR hS hp hl (Or.inl e) (h.trans e.symm) hlt q
      · have e := (rb (by decide)).mp h2
        have hlt := Bn (B := bH tp n) bHok e (by decide)
        rw [show isDg (bH tp n p) = false by rw [e]; rfl] at q
        exact hN d p cd N g (by omega) hR hS hp hl (Or.inr ⟨e, fun e2 => by rw [e] at e2; exact absurd e2 (by decide)⟩) (h2.trans e.symm) hlt q
      · have e := (rb (by decide)).mp h3
        have hlt := Bn (B := bH tp n) bHok e (by decide)
        rw [show isDg (bH tp n p) = false by rw [e]; rfl] at q
        exact hP d p cd N g (by omega) hR hS hp hl e hlt q
      · have f1 : ¬ bH tp n p = 33 := fun e => h ((rb (by decide)).mpr e)
        have f2 : ¬ bH tp n p = 45 := fun e => h2 ((rb (by decide)).mpr e)
        have f3 : ¬ bH tp n p = 40 := fun e => h3 ((rb (by decide)).mpr e)
        have eY := hF p cd f1 f2 f3
        refine k212 hn ht (by omega) hR hS hp hl (fun y N' hN' hr => ⟨rfl, q N' hN' ?_⟩) (fun y N' hN' hr => ⟨rfl, q N' hN' ?_⟩)
        · rw [y]
          show RPb tp n p cd.length N' (Y p cd) o
          rw [eY]
          exact hr
        · rw [y]
          exact hr
  intro g
  induction g with
  | zero =>
    intro _
    refine fun d p cd N g hd => leaf (fun p cd => (false, p, cd)) (nI (6 - 0)) 6 (by omega) (fun d p cd N g hd hR hS hp hl h _ _ q => ?_) (fun d p cd N g hd hR hS hp hl h _ q => ?_) (fun p cd _ _ _ => rfl) d p cd N g (by omega)
    · refine v206_46 (k210 (by omega) hR (fun _ hR2 => ⟨rfl, brK_t rfl (q _ (frR7 (by decide) (by decide)) (Or.inr ⟨fun z => Bool.noConfusion z, nI (6 - 0), cd.length, hR2, by show cd.length + p ≤ cd.length + p + 1; omega⟩))⟩) (fun h => absurd rfl h))
    · exact k210 (by omega) hR (fun _ hR2 => ⟨rfl, brK_t rfl (q _ (frR7 (by decide) (by decide)) (Or.inr ⟨fun z => Bool.noConfusion z, nI (6 - 0), cd.length, hR2, by show cd.length + p ≤ cd.length + p + 1; omega⟩))⟩) (fun h => absurd rfl h)
  | succ g ih =>
    intro hg
    have ho : ¬ (nI (6 - (g + 1)) : Int32) = 6 := fun e => by
      have := congrArg ix e
      rw [ix_n (by omega), show ix 6 = 6 from rfl] at this
      omega
    have ho1 : nI (6 - (g + 1)) + 1 = nI (6 - g) := by rw [nI_1, show 6 - (g + 1) + 1 = 6 - g by omega]
    have ho2 : nI (6 - g) - 1 = nI (6 - (g + 1)) := by rw [← ho1, Int32.add_sub_cancel]
    have hX := opP_ok (B := bH tp n) bHok g
    have ih := ih (by omega)
    refine fun d p cd N gg hd => leaf (nsP (bH tp n) (opP (bH tp n) g)) (nI (6 - (g + 1))) (8 * g + 15) (by omega) (fun d p cd N gg hd hR hS hp hl h er hlt q => ?_) (fun d p cd N gg hd hR hS hp hl h hlt q => ?_) (fun p cd h1 h2 h3 => ?_) d p cd N gg (by omega)
    · refine v206_46 (k210 (by omega) hR (fun h _ => absurd h ho) (fun _ hR2 => ⟨rfl, brK_f (by decide) ?_⟩))
      rw [ho1] at hR2 ⊢
      have ok := hX (p + 1) cd hlt
      obtain ⟨seg, z1, z2, z3, z4, z5⟩ := ok
      have hlen : (opP (bH tp n) g (p + 1) cd).2.2.length ≤ (opP (bH tp n) g (p + 1) cd).2.1 := by rw [z1, List.length_append]; omega
      refine ih d (p + 1) cd _ _ (by omega) hR2 (SK_7 (SK_7 hS)) hlt (by omega) (fun N1 hN1 hr1 => ⟨rfl, ?_⟩)
      have hr2 : RPb tp n (p + 1) cd.length (sI N1 67 19 (gI N1 67 19 - 1)) (opP (bH tp n) g (p + 1) cd) (nI (6 - (g + 1))) := by
        rcases hr1 with ⟨a1, a2, a3⟩ | ⟨a1, o', l', a2, a3⟩
        · refine Or.inl ⟨a1, ?_, SK_7 a3⟩
          rw [a2.2.2.2.2.1, ho2]
          exact RS_o a2
        · exact Or.inr ⟨a1, _, l', RS_o a2, a3⟩
      have hA : agr frR N (sI N1 67 19 (gI N1 67 19 - 1)) := agr_t (frR7 (by decide) (by decide)) (agr_t (frR7 (by decide) (by decide)) (agr_t hN1 (frR7 (by decide) (by decide))))
      dsimp only
      rw [er]
      unfold nsP at q
      rcases h with h | ⟨h, h'⟩
      · rw [show decide (bH tp n p = 40) = false by rw [h]; rfl, decide_eq_true h] at q
        exact brK_t h (kadd (c := 33) (w := 3) (by omega) hn z3 hlen (Or.inr (Or.inr (Or.inl ⟨rfl, rfl⟩))) (by decide) hl hr2 (fun N2 hN2 hr3 => ⟨rfl, q N2 (agr_t hA hN2) hr3⟩))
      · rw [show decide (bH tp n p = 40) = false by rw [h]; rfl, decide_eq_false h', decide_eq_true h] at q
        exact brK_f h' (kadd (c := 126) (w := 4) (by omega) hn z3 hlen (Or.inr (Or.inr (Or.inr (Or.inl ⟨rfl, rfl⟩)))) (by decide) hl hr2 (fun N2 hN2 hr3 => ⟨rfl, q N2 (agr_t hA hN2) hr3⟩))
    · refine k210 (by omega) hR (fun h _ => absurd h ho) (fun _ hR2 => ⟨rfl, brK_f (by decide) ?_⟩)
      rw [ho1] at hR2 ⊢
      unfold nsP at q
      rw [decide_eq_true h] at q
      have q : ∀ N', agr frR N N' → RPb tp n p cd.length N' (clP (bH tp n) (eiP (bH tp n) (opP (bH tp n) g) (p + 1) cd)) (nI (6 - (g + 1))) → gg (FR b, N') := q
      have ok := eiP_ok (B := bH tp n) bHok hX (p + 1) cd hlt
      obtain ⟨seg, z1, z2, z3, z4, z5⟩ := ok
      refine REi hn ht hX ih (by omega) d (p + 1) cd _ _ (by omega) hR2 (SK_7 (SK_7 hS)) hlt (by omega) (fun N1 hN1 hr1 => ⟨rfl, ?_⟩)
      have hA : agr frR N N1 := agr_t (frR7 (by decide) (by decide)) (agr_t (frR7 (by decide) (by decide)) hN1)
      unfold clP at q
      rcases hr1 with ⟨a1, a2, a3⟩ | ⟨a1, o', l', a2, a3⟩
      · refine brK_t (by dsimp only; rw [a2.2.2.2.1]; decide) (k207 (by omega) hn z3 a2 ⟨rfl, ⟨fun y => ?_, fun y => ?_⟩⟩)
        · have y' := (rB_c (fun h => ht _ (by omega)) (by decide)).mp y
          rw [a1, decide_eq_true y'] at q
          dsimp only
          rw [a2.2.2.1, a2.2.2.2.2.1, nI_1, ho2]
          exact q _ (agr_t hA (agr_t (frR7 (by decide) (by decide)) (frR7 (by decide) (by decide)))) (Or.inl ⟨rfl, RS_o (RS_p a2), SK_7 (SK_7 a3)⟩)
        · have y' : ¬ bH tp n (eiP (bH tp n) (opP (bH tp n) g) (p + 1) cd).2.1 = 41 := fun e => y ((rB_c (fun h => ht _ (by omega)) (by decide)).mpr e)
          rw [a1, decide_eq_false y'] at q
          refine k211 (by omega) a2 (fun z => absurd z (by decide)) (fun _ hR3 => ⟨rfl, q _ (agr_t hA (frR7 (by decide) (by decide))) (Or.inr ⟨fun z => Bool.noConfusion z, _, _, hR3, ?_⟩)⟩)
          show (eiP (bH tp n) (opP (bH tp n) g) (p + 1) cd).2.2.length + p ≤ cd.length + (eiP (bH tp n) (opP (bH tp n) g) (p + 1) cd).2.1 + 1
          rw [z1, List.length_append]
          omega
      · have e : (bif (eiP (bH tp n) (opP (bH tp n) g) (p + 1) cd).1 && decide (bH tp n (eiP (bH tp n) (opP (bH tp n) g) (p + 1) cd).2.1 = 41) then (true, (eiP (bH tp n) (opP (bH tp n) g) (p + 1) cd).2.1 + 1, (eiP (bH tp n) (opP (bH tp n) g) (p + 1) cd).2.2) else (false, (eiP (bH tp n) (opP (bH tp n) g) (p + 1) cd).2.1, (eiP (bH tp n) (opP (bH tp n) g) (p + 1) cd).2.2)) = (false, (eiP (bH tp n) (opP (bH tp n) g) (p + 1) cd).2.1, (eiP (bH tp n) (opP (bH tp n) g) (p + 1) cd).2.2) := by
          cases y : (eiP (bH tp n) (opP (bH tp n) g) (p + 1) cd).1 with
          | false => rfl
          | true =>
            have := a1 y
            rw [decide_eq_false (fun e => by rw [e] at this; exact absurd this (by decide))]
            rfl
        rw [e] at q
        refine brK_f (fun z => ?_) (q N1 hA (Or.inr ⟨fun z => Bool.noConfusion z, o', l', a2, by show l' + p ≤ cd.length + (eiP (bH tp n) (opP (bH tp n) g) (p + 1) cd).2.1 + 1; omega⟩))
        have z : gI N1 67 18 < 0 := z
        rw [a2.2.2.2.1] at z
        have := nn_p (p := (eiP (bH tp n) (opP (bH tp n) g) (p + 1) cd).2.1) (by omega)
        rw [i_le] at this
        rw [i_lt] at z
        omega
    · unfold nsP
      rw [decide_eq_false h1, decide_eq_false h2, decide_eq_false h3]
      rfl
end RREAD3
