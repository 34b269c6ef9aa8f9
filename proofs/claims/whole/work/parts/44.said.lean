theorem LawR_sg {b : Bool} {S : M2} (hL : LawR b S) {i : Nat} (hi : i < ix (gI S (nwC b) 4)) : ∀ k, k < ix (gI S (nwC b + 3) i) → sgK (gI S (nwC b + 1) k) := fun k hk => sgK_of ((hL.2.2.2 i hi).2 k hk)
theorem ix_eq {x : Int32} {n : Nat} (hn : n < 4294967296) : x = nI n ↔ ix x = n := ⟨fun h => by rw [h, ix_n hn], fun h => by rw [← h, n_ix]⟩
theorem evl_0 {sg : Nat → Int32} {s : St} {t r : Int32} : True := trivial
section SAID
variable {d : Nat} {b : Bool} {S : M2} {s : St} {t r : Int32}
theorem l60 {f : Int32 → Mm → Prop} {h : Nat} (hd : 2 ≤ d) (hr : h < 107) (hk : kd h = 3) (hL : LawR b S) : ∀ (n i : Nat) (N : M2) (x3 : Int32) (u5 : Value), i + n = ix (gI S (nwC b) 4) → ix x3 = lstart S (nwC b) i → agr (pC b) S N → HS N h s t → (∀ N', agr (fr [17]) N N' → f (sayL (gI S (nwC b + 1)) (gI S (nwC b + 2)) (gI S (nwC b + 3)) s t r n i (lstart S (nwC b) i)) (FR b, N')) → WP (d + 1) 107 60 37 [.ref 7, .ref h, .int r, .int x3, .int (nI i), u5] [] 107 (FR b, N) (rI f) := by
  have h17 : nin [17] h = true := by
    unfold nin nin
    have : Nat.beq h 17 = false := by
      cases hb : Nat.beq h 17 with
      | false => rfl
      | true =>
        have := Nat.eq_of_beq_eq_true hb
        subst this
        exact absurd hk (by decide)
    rw [this]; rfl
  have nk := nw_k b
  intro n
  induction n with
  | zero =>
    intro i N x3 u5 hn hx hA hs q
    have e4 : gI N (nwC b) 4 = nI i := by rw [agr_nI hA (nw_p b 4).1, ← n_ix (gI S (nwC b) 4), ← hn]; rfl
    refine v60_37 (oK_i nk.1 nk.2.1 (brK_t ?_ (q N (agr_r N))))
    have : gI N (bif b then 13 else 9) 4 = nI i := e4
    rw [this, i_le]; exact Int.le_refl _
  | succ n ih =>
    intro i N x3 u5 hn hx hA hs q
    have h60 := hL.1
    have hi : i < ix (gI S (nwC b) 4) := by omega
    have q1 := (hL.2.2.2 i hi).1
    have e4 : gI N (nwC b) 4 = gI S (nwC b) 4 := agr_nI hA (nw_p b 4).1
    have n1 := nI_toInt (n := i) (by omega)
    have l2 := len20 (Or.inl nk.2.2.2.2.2.2.1) N
    have l3 := len20 (Or.inl nk.2.2.2.2.2.2.2.1) N
    have eak : gI N (nwC b + 2) (ix (nI i)) = gI S (nwC b + 2) i := by rw [ix_n (by omega)]; exact agr_nI hA (nw_p b i).2.2.1
    have een : ∀ N', agr (pC b) S N' → gI N' (nwC b + 3) (ix (nI i)) = gI S (nwC b + 3) i := fun N' hA' => by rw [ix_n (by omega)]; exact agr_nI hA' (nw_p b i).2.2.2
    have x4 := ix_t (gI S (nwC b) 4)
    have fA : ∀ N', agr (fr [17]) N N' → agr (pC b) S N' := fun N' hN => agr_t hA (fr_m (fun a ha j => by rw [List.mem_singleton.mp ha]; exact pC17 b j) hN)
    have c86 : ∀ N', agr (fr [17]) N N' → (∀ N'', agr (fr [17]) N N'' → f (evl (gI S (nwC b + 1)) s t r (ix (gI S (nwC b + 2) i)) (ix (gI S (nwC b + 3) i)) &&& 15) (FR b, N'')) → ∀ u3, WP (d + 1) 107 60 86 [.ref 7, .ref h, .int r, u3, .int (nI i), .int (gI S (nwC b + 2) i)] [] 107 (FR b, N') (rI f) := by
      intro N' hN' q' u3
      have l3' := len20 (Or.inl nk.2.2.2.2.2.2.2.1) N'
      refine v60_86 (oK_i nk.1 nk.2.1 (rK_i nk.2.2.2.2.1 (rdI_i (by omega) (Or.inl nk.2.2.2.2.2.2.2.1) (iK_i (by rw [l3'.1, nk.2.2.2.2.2.2.2.2.2.2.1, ix_n (by omega)]; omega) ?_))))
      rw [l3'.2.2, een N' (fA N' hN')]
      exact c61 (S := S) (s := s) (t := t) (by omega) hr hk q1.2.2.1 q1.2.1 (LawR_sg hL hi) q1.2.2.2.2.2.2 (fA N' hN') (HS_a h17 hN' hs) (fun N'' hN'' => ⟨rfl, q' N'' (agr_t hN' hN'')⟩)
    unfold sayL at q
    refine v60_37 (oK_i nk.1 nk.2.1 (brK_f ?_ (brK_f ?_ (oK_i nk.1 nk.2.1 (rK_i nk.2.2.2.1 (rdI_i (by omega) (Or.inl nk.2.2.2.2.2.2.1) (iK_i (by rw [l2.1, nk.2.2.2.2.2.2.2.2.2.1, ix_n (by omega)]; omega) ?_)))))))
    · have : gI N (bif b then 13 else 9) 4 = gI S (nwC b) 4 := e4
      rw [this, i_le]; omega
    · rw [i_le, show (60 : Int32).toInt = 60 from rfl]; omega
    · rw [l2.2.2, eak]
      refine brK_d (fun z => ?_) (fun z => ?_)
      · have z2 : decide (ix (gI S (nwC b + 2) i) = lstart S (nwC b) i) = true := decide_eq_true (by rw [← hx, of_decide_eq_true z])
        rw [z2] at q
        exact c86 N (agr_r N) q _
      · have z2 : decide (ix (gI S (nwC b + 2) i) = lstart S (nwC b) i) = false := decide_eq_false (fun e => of_decide_eq_false z (ix_inj (by rw [hx, e])))
        rw [z2] at q
        have hru : hrun (gI S (nwC b + 1)) (ix (gI S (nwC b + 2) i) - ix x3) (ix x3) 0 = some 1 := by
          rw [hx]
          rcases q1.2.2.2.2.2.1 with e | e
          · exact absurd e.symm (of_decide_eq_false z2)
          · exact e
        refine c61 (S := S) (s := s) (t := t) (by omega) hr hk (by have := q1.2.1; have := q1.2.2.1; omega) (by rw [hx]; exact q1.1) (fun k hk => LawR_sg hL hi k (by have := q1.2.1; omega)) hru hA hs (fun N' hN' => ⟨rfl, ?_⟩)
        rw [hx]
        refine brK_d (fun y => oK_i nk.1 nk.2.1 (rK_i nk.2.2.2.2.1 (rdI_i (by omega) (Or.inl nk.2.2.2.2.2.2.2.1) (iK_i ?_ ?_)))) (fun y => ?_)
        · have l3' := len20 (Or.inl nk.2.2.2.2.2.2.2.1) N'
          dsimp only
          rw [l3'.1, nk.2.2.2.2.2.2.2.2.2.2.1, ix_n (by omega)]; omega
        · have l3' := len20 (Or.inl nk.2.2.2.2.2.2.2.1) N'
          dsimp only
          rw [l3'.2.2, een N' (fA N' hN'), ← nI_succ]
          rw [y] at q
          exact ih (i + 1) N' _ _ (by omega) rfl (fA N' hN') (HS_a h17 hN' hs) (fun N'' hN'' => q N'' (agr_t hN' hN''))
        · rw [y] at q
          exact c86 N' hN' q _
theorem c60 {f : Int32 → Mm → Prop} {h : Nat} {N : M2} (hd : 3 ≤ d) (hr : h < 107) (hk : kd h = 3) (hL : LawR b S) (hA : agr (pC b) S N) (hs : HS N h s t) (k : ∀ N', agr (fr [17]) N N' → f (sayV b S s t r) (FR b, N')) : WP d 107 60 0 [.ref 7, .ref h, .int r, U, U, U] [] 107 (FR b, N) (rI f) := by
  obtain ⟨d, rfl⟩ := ex1 (e := 2) hd
  have nk := nw_k b
  have e4 : gI N (bif b then 13 else 9) 4 = gI S (nwC b) 4 := agr_nI hA (nw_p b 4).1
  unfold sayV at k
  refine v60_0 (oK_i nk.1 nk.2.1 ?_)
  rw [e4]
  refine brK_d (fun z => oK_i hr hk (oK_i hr hk (oK_i hr hk ?_))) (fun z => ?_)
  · rw [hs.1, hs.2.1, hs.2.2.1]
    rw [z] at k
    exact k N (agr_r N)
  · rw [z] at k
    exact l60 (by omega) hr hk hL (ix (gI S (nwC b) 4)) 0 N 0 U (by omega) rfl hA hs k
end SAID
