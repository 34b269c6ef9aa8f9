/-! THE REFERENCE'S WAY TO THE SAME -/
def FactR (N : M2) (s : St) (t r : Int32) : Prop := gI N 84 0 = s.1 ∧ gI N 84 1 = s.2.1 ∧ gI N 84 2 = s.2.2.1 ∧ gI N 84 3 = s.2.2.2 ∧ gI N 84 4 = r ∧ gI N 84 5 = t
theorem FactR_nm {N : M2} {s : St} {t r c : Int32} (h : FactR N s t r) (hc : isNm c = true) : gI N 84 (ix (nmI c)) = nmV s t r c ∧ ix (nmI c) < 6 := by
  rcases nm_cases hc with e | e | e | e | e | e <;> subst e
  · exact ⟨h.1, by decide⟩
  · exact ⟨h.2.1, by decide⟩
  · exact ⟨h.2.2.1, by decide⟩
  · exact ⟨h.2.2.2.1, by decide⟩
  · exact ⟨h.2.2.2.2.1, by decide⟩
  · exact ⟨h.2.2.2.2.2, by decide⟩
theorem FactR_a {M M' : M2} {s : St} {t r : Int32} (ha : ∀ j, gI M' 84 j = gI M 84 j) (h : FactR M s t r) : FactR M' s t r := by
  unfold FactR
  rw [ha, ha, ha, ha, ha, ha]
  exact h
theorem pC84 : ∀ b j, pC b 84 j = false := fun _ _ => rfl
theorem pC85 : ∀ b j, pC b 85 j = false := fun _ _ => rfl
theorem pC79 {b : Bool} {j : Nat} (h : j < 130) : pC b 79 j = true ∧ pC b 80 j = true := by
  have : Nat.blt j 130 = true := Nat.ble_eq_true_of_le h
  exact ⟨this, this⟩
theorem pC82 {b : Bool} {j : Nat} (h : j < 61) : pC b 82 j = true ∧ pC b 83 j = true := by
  have : Nat.blt j 61 = true := Nat.ble_eq_true_of_le h
  exact ⟨this, this⟩
theorem z130 (c x : Int32) : c * 0 + x = x := by rw [Int32.mul_zero, Int32.zero_add]
/-- the reference's part of what lasts -/
def pRf (b : Bool) (r j : Nat) : Bool := pC b r j && Nat.ble 67 r
theorem pR_le {b : Bool} {S N : M2} (h : agr (pC b) S N) : agr (pRf b) S N := agr_m (fun r j q => by unfold pRf at q; rw [Bool.and_eq_true] at q; exact q.1) h
theorem pR84 : ∀ b j, pRf b 84 j = false := fun _ _ => rfl
theorem pR85 : ∀ b j, pRf b 85 j = false := fun _ _ => rfl
theorem pR79 {b : Bool} {j : Nat} (h : j < 130) : pRf b 79 j = true ∧ pRf b 80 j = true := by
  have := @pC79 b j h
  unfold pRf
  rw [this.1, this.2]
  exact ⟨rfl, rfl⟩
theorem pR82 {b : Bool} {j : Nat} (h : j < 61) : pRf b 82 j = true ∧ pRf b 83 j = true := by
  have := @pC82 b j h
  unfold pRf
  rw [this.1, this.2]
  exact ⟨rfl, rfl⟩
section REFW
variable {d : Nat} {b : Bool} {S : M2} {s : St} {t r : Int32}
theorem l217 {Q : QT} {u2 : Value} {e : Nat} (hd : 1 ≤ d) (hz : e ≤ 120) (hg : ∀ i, i < e → sgR (gI S (nwC b + 1) i) (gI S 79 i) (gI S 80 i)) : ∀ (m k : Nat) (st : List Int32) (N : M2) (u6 : Value), k + m = e → st.length ≤ k → hrun (gI S (nwC b + 1)) m k st.length = some 1 → agr (pRf b) S N → FactR N s t r → stk N 85 st → (∀ N', agr (fr [85]) N N' → Q (some (.int (hd0 (evS (gI S (nwC b + 1)) s t r m k st)))) (FR b, N')) → WP (d + 1) 107 217 12 [.ref 67, .int 0, u2, .int (nI e), .int (nI st.length), .int (nI k), u6] [] 107 (FR b, N) Q := by
  intro m
  induction m with
  | zero =>
    intro k st N u6 hm hl hh hA hs hst q
    have hk2 : k = e := by omega
    subst hk2
    have h1 : st.length = 1 := Option.some.inj hh
    match st, h1 with
    | [x], _ =>
      refine v217_12 ?_
      rw [z130]
      refine brK_t ((cnt_lt rfl (by omega) (Nat.le_refl _)).mpr rfl) ?_
      have e2 : gI N 85 0 = x := hst.1
      have q2 := q N (agr_r N)
      have e3 : hd0 (evS (gI S (nwC b + 1)) s t r 0 k [x]) = x := rfl
      rw [e3] at q2
      rw [e2]
      exact q2
  | succ m ih =>
    intro k st N u6 hm hl hh hA hs hst q
    obtain ⟨h', hh1, hh2⟩ := hrun_s hh
    have n1 := nI_toInt (n := k) (by omega)
    have n2 := nI_toInt (n := st.length) (by omega)
    have ea : gI N 79 (ix (nI k)) = gI S 79 k := by rw [ix_n (by omega)]; exact agr_nI hA (pR79 (by omega)).1
    have ew : gI N 80 (ix (nI k)) = gI S 80 k := by rw [ix_n (by omega)]; exact agr_nI hA (pR79 (by omega)).2
    have hgk := sgR_cases (hg k (by omega))
    have hsg := sgK_of (hg k (by omega))
    have ixk : ix (nI k) < 260 := by rw [ix_n (by omega)]; omega
    refine v217_12 ?_
    rw [z130]
    refine brK_f (fun z => by have := (cnt_lt (n := k) (m := e) rfl (by omega) (by omega)).mp z; omega) (iK_i ixk ?_)
    rw [ea]
    have q0 : ∀ N', agr (fr [85]) N N' → Q (some (.int (hd0 (evS (gI S (nwC b + 1)) s t r m (k + 1) (ev1 s t r (gI S (nwC b + 1) k) st))))) (FR b, N') := q
    generalize gI S (nwC b + 1) k = c at hh1 hgk hsg q0
    have go : ∀ (v : Int32) (st' : List Int32) (w6 : Value), ev1 s t r c st = v :: st' → stk N 85 st' → st'.length ≤ k → h' = st'.length + 1 → WP (d + 1) 107 217 12 [.ref 67, .int 0, u2, .int (nI e), .int (nI (st'.length + 1)), .int (nI k + 1), w6] [] 107 (FR b, sI N 85 st'.length v) Q := by
      intro v st' w6 he hs' hlk hh'
      rw [← nI_succ]
      have hA2 : agr (pRf b) S (sI N 85 st'.length v) := agr_sI (pR85 b _) hA
      have hF2 : agr (fr [85]) N (sI N 85 st'.length v) := agr_sI rfl (agr_r N)
      have := ih (k + 1) (v :: st') (sI N 85 st'.length v) w6 (by omega) (by show st'.length + 1 ≤ k + 1; omega) (by rw [show (v :: st').length = h' from hh'.symm]; exact hh2) hA2 (FactR_a (fun j => (hF2 84 j rfl).1) hs) (stk_push hs') (fun N' hN' => by have := q0 N' (agr_t hF2 hN'); rw [he] at this; exact this)
      exact this
    have l130 : ix (nI st.length) < 130 := by rw [ix_n (by omega)]; omega
    rcases hgk with ⟨hp, h1000, ha, hw⟩ | ⟨hp, h1000, hnm, ha, hw⟩ | ⟨hp, hu, hc, ha⟩ | ⟨hp, hu, hc, ha⟩ | ⟨hp, hu, hb, ha⟩
    · have hh3 := hgt_pu hp hh1
      have g2 := go _ st (.int (gI S 79 k)) (ev1_pu hp) hst hl hh3
      unfold puV at g2
      rw [h1000] at g2
      refine brK_t ha (v217_45 (brK_t ha (iK_i ixk (iK_i l130 ?_))))
      rw [ew, hw, ix_n (by omega), ← nI_succ]
      exact g2
    · have hh3 := hgt_pu hp hh1
      have g2 := go _ st (.int (gI S 79 k)) (ev1_pu hp) hst hl hh3
      unfold puV at g2
      rw [h1000] at g2
      have hf := FactR_nm hs hnm
      have n1 : ¬ gI S 79 k = 1 := by rw [ha]; decide
      refine brK_f n1 (brK_t ha (v217_45 (brK_f n1 (iK_i ixk (iK_i (by rw [ew, hw]; exact hf.2) (iK_i l130 ?_))))))
      rw [ew, hw, hf.1, ix_n (by omega), ← nI_succ]
      exact g2
    · obtain ⟨hh3, hlen1⟩ := hgt_un hp hu hh1
      match st, hlen1 with
      | x :: u, _ =>
        have el : (x :: u).length = u.length + 1 := rfl
        have e1 : ix (nI (x :: u).length - 1) = u.length := by rw [el, nI_pred, ix_n (by omega)]
        have ex : gI N 85 (ix (nI (x :: u).length - 1)) = x := by rw [e1]; exact hst.1
        have g2 := go (unV c x) u (.int (gI S 79 k)) (ev1_un hp hu) hst.2 (by omega) (by omega)
        have ec : decide (c = 126) = false := by subst hc; rfl
        unfold unV at g2
        rw [ec] at g2
        have n1 : ¬ gI S 79 k = 1 := by rw [ha]; decide
        have n2 : ¬ gI S 79 k = 2 := by rw [ha]; decide
        refine brK_f n1 (brK_f n2 (brK_t ha (iK_i (by rw [e1]; omega) (brK_d (fun z2 => iK_i (by rw [e1]; omega) ?_) (fun z2 => iK_i (by rw [e1]; omega) ?_)))))
        · rw [ex] at z2; rw [z2] at g2; rw [e1]; exact g2
        · rw [ex] at z2; rw [z2] at g2; rw [e1]; exact g2
    · obtain ⟨hh3, hlen1⟩ := hgt_un hp hu hh1
      match st, hlen1 with
      | x :: u, _ =>
        have el : (x :: u).length = u.length + 1 := rfl
        have e1 : ix (nI (x :: u).length - 1) = u.length := by rw [el, nI_pred, ix_n (by omega)]
        have ex : gI N 85 (ix (nI (x :: u).length - 1)) = x := by rw [e1]; exact hst.1
        have g2 := go (unV c x) u (.int (gI S 79 k)) (ev1_un hp hu) hst.2 (by omega) (by omega)
        have ec : decide (c = 126) = true := by subst hc; rfl
        unfold unV at g2
        rw [ec] at g2
        have n1 : ¬ gI S 79 k = 1 := by rw [ha]; decide
        have n2 : ¬ gI S 79 k = 2 := by rw [ha]; decide
        have n3 : ¬ gI S 79 k = 3 := by rw [ha]; decide
        refine brK_f n1 (brK_f n2 (brK_f n3 (brK_t ha (iK_i (by rw [e1]; omega) (iK_i (by rw [e1]; omega) ?_)))))
        rw [ex, e1]; exact g2
    · obtain ⟨hh3, hlen1⟩ := hgt_bin hp hu hh1
      match st, hlen1 with
      | y :: x :: u, _ =>
        have el : (y :: x :: u).length = u.length + 1 + 1 := rfl
        have e1 : nI (y :: x :: u).length + (-1) = nI (u.length + 1) := by rw [el, nI_pred']
        have e2 : nI (u.length + 1) - 1 = nI u.length := nI_pred _
        have ey : gI N 85 (u.length + 1) = y := hst.1
        have exx : gI N 85 u.length = x := hst.2.1
        have n1 : ¬ c = 1 ∧ ¬ c = 2 ∧ ¬ c = 3 ∧ ¬ c = 4 := by
          rcases bin_cases hb with e | e | e | e | e | e | e | e | e | e <;> subst e <;> decide
        rw [ha]
        refine brK_f n1.1 (brK_f n1.2.1 (brK_f n1.2.2.1 (brK_f n1.2.2.2 ?_)))
        rw [e1]
        refine v217_152 (iK_i (by rw [e2, ix_n (by omega)]; omega) (iK_i (by rw [ix_n (by omega)]; omega) ?_))
        rw [e2, ix_n (by omega), ix_n (by omega), ey, exx]
        refine v217_178 (c218 (by omega) hb ⟨rfl, iK_i (by rw [ix_n (by omega)]; omega) ?_⟩)
        rw [ix_n (by omega)]
        exact go (joinV c x y) u _ (ev1_bin hp hu) hst.2.2 (by omega) (by omega)
theorem c217 {x y : Int32} {f : Int32 → Mm → Prop} {N : M2} (hd : 2 ≤ d) (hz : ix y ≤ 120) (hxy : ix x ≤ ix y) (hg : ∀ i, i < ix y → sgR (gI S (nwC b + 1) i) (gI S 79 i) (gI S 80 i)) (hh : hrun (gI S (nwC b + 1)) (ix y - ix x) (ix x) 0 = some 1) (hA : agr (pRf b) S N) (hs : FactR N s t r) (k : ∀ N', agr (fr [85]) N N' → f (evl (gI S (nwC b + 1)) s t r (ix x) (ix y)) (FR b, N')) : WP d 107 217 0 [.ref 67, .int 0, .int x, .int y, U, U, U] [] 107 (FR b, N) (rI f) := by
  obtain ⟨d, rfl⟩ := ex1 (e := 1) hd
  refine v217_0 ?_
  rw [z130, ← n_ix x, ← n_ix y]
  exact l217 (d := d) (Q := rI f) (b := b) (S := S) (s := s) (t := t) (r := r) (by omega) hz hg (ix y - ix x) (ix x) [] N U (by omega) (Nat.zero_le _) hh hA hs trivial k
theorem l216 {f : Int32 → Mm → Prop} (hd : 2 ≤ d) (hL : LawR b S) : ∀ (n i : Nat) (N : M2) (x2 : Int32), i + n = ix (gI S (nwC b) 4) → ix x2 = lstart S (nwC b) i → agr (pRf b) S N → FactR N s t r → (∀ N', agr (fr [85]) N N' → ∀ v, v &&& 15 = sayL (gI S (nwC b + 1)) (gI S (nwC b + 2)) (gI S (nwC b + 3)) s t r n i (lstart S (nwC b) i) → f v (FR b, N')) → WP (d + 1) 107 216 7 [.ref 67, .int 0, .int x2, .int (nI i)] [] 107 (FR b, N) (rI f) := by
  intro n
  induction n with
  | zero =>
    intro i N x2 hn hx hA hs q
    have e4 : gI N 81 0 = nI i := by rw [agr_nI hA rfl, hL.2.2.1, ← n_ix (gI S (nwC b) 4), ← hn]; rfl
    refine v216_7 (iK_i (by decide) ?_)
    rw [z130, show ix 0 = 0 from rfl, e4]
    exact brK_t (by rw [i_le]; exact Int.le_refl _) (q N (agr_r N) 0 rfl)
  | succ n ih =>
    intro i N x2 hn hx hA hs q
    have h60 := hL.1
    have hi : i < ix (gI S (nwC b) 4) := by omega
    have q1 := (hL.2.2.2 i hi).1
    have qs := (hL.2.2.2 i hi).2
    have e4 : gI N 81 0 = gI S (nwC b) 4 := by rw [agr_nI hA rfl, hL.2.2.1]
    have n1 := nI_toInt (n := i) (by omega)
    have x4 := ix_t (gI S (nwC b) 4)
    have i122 : ix (nI i) < 122 := by rw [ix_n (by omega)]; omega
    have fA : ∀ N', agr (fr [85]) N N' → agr (pRf b) S N' := fun N' hN => agr_t hA (fr_m (fun a ha j => by rw [List.mem_singleton.mp ha]; exact pR85 b j) hN)
    have e82 : ∀ N', agr (pRf b) S N' → gI N' 82 (ix (nI i)) = gI S (nwC b + 2) i ∧ gI N' 83 (ix (nI i)) = gI S (nwC b + 3) i := by
      intro N' hA'
      rw [ix_n (by omega)]
      exact ⟨(agr_nI hA' (pR82 (by omega)).1).trans q1.2.2.2.1, (agr_nI hA' (pR82 (by omega)).2).trans q1.2.2.2.2.1⟩
    have fF : ∀ N', agr (fr [85]) N N' → FactR N' s t r := fun N' hN => FactR_a (fun j => (hN 84 j rfl).1) hs
    have c47 : ∀ N', agr (fr [85]) N N' → (∀ N'', agr (fr [85]) N N'' → f (evl (gI S (nwC b + 1)) s t r (ix (gI S (nwC b + 2) i)) (ix (gI S (nwC b + 3) i))) (FR b, N'')) → ∀ u2, WP (d + 1) 107 216 47 [.ref 67, .int 0, u2, .int (nI i)] [] 107 (FR b, N') (rI f) := by
      intro N' hN' q' u3
      refine v216_47 (iK_i i122 (iK_i i122 ?_))
      rw [(e82 N' (fA N' hN')).1, (e82 N' (fA N' hN')).2]
      exact c217 (S := S) (s := s) (t := t) (r := r) (by omega) q1.2.2.1 q1.2.1 qs q1.2.2.2.2.2.2 (fA N' hN') (fF N' hN') (fun N'' hN'' => ⟨rfl, q' N'' (agr_t hN' hN'')⟩)
    unfold sayL at q
    refine v216_7 (iK_i (by decide) ?_)
    rw [z130, show ix 0 = 0 from rfl, e4]
    refine brK_f (by rw [i_le]; omega) (iK_i i122 ?_)
    rw [(e82 N hA).1]
    refine brK_d (fun z => ?_) (fun z => iK_i i122 ?_)
    · have z2 : decide (ix (gI S (nwC b + 2) i) = lstart S (nwC b) i) = true := decide_eq_true (by rw [← hx, of_decide_eq_true z])
      rw [z2] at q
      exact c47 N (agr_r N) (fun N'' hN'' => q N'' hN'' _ rfl) _
    · have z2 : decide (ix (gI S (nwC b + 2) i) = lstart S (nwC b) i) = false := decide_eq_false (fun e => of_decide_eq_false z (ix_inj (by rw [hx, e])))
      rw [z2] at q
      have hru : hrun (gI S (nwC b + 1)) (ix (gI S (nwC b + 2) i) - ix x2) (ix x2) 0 = some 1 := by
        rw [hx]
        rcases q1.2.2.2.2.2.1 with e | e
        · exact absurd e.symm (of_decide_eq_false z2)
        · exact e
      refine c217 (S := S) (s := s) (t := t) (r := r) (by omega) (by have := q1.2.1; have := q1.2.2.1; omega) (by rw [hx]; exact q1.1) (fun k hk => qs k (by have := q1.2.1; omega)) hru hA hs (fun N' hN' => ⟨rfl, ?_⟩)
      rw [hx]
      refine brK_d (fun y => iK_i i122 ?_) (fun y => ?_)
      · dsimp only
        rw [(e82 N' (fA N' hN')).2, ← nI_succ]
        rw [y] at q
        exact ih (i + 1) N' _ (by omega) rfl (fA N' hN') (fF N' hN') (fun N'' hN'' => q N'' (agr_t hN' hN''))
      · rw [y] at q
        exact c47 N' hN' (fun N'' hN'' => q N'' hN'' _ rfl) _
theorem c215r {f : Int32 → Mm → Prop} {m g l h : Int32} {N : M2} (hd : 4 ≤ d) (hL : LawR b S) (hA : agr (pRf b) S N) (k : ∀ N', agr (fr [84, 85]) N N' → f (sayV b S (m, g, l, h) (gI S 68 6) r) (FR b, N')) : WP d 107 215 0 [.ref 67, .int m, .int g, .int l, .int h, .int r] [] 107 (FR b, N) (rI f) := by
  obtain ⟨d, rfl⟩ := ex1 (e := 3) hd
  have e28 : gI N 67 28 = bI (!decide (gI S (nwC b) 4 = 0)) := (agr_nI hA rfl).trans hL.2.1
  have e6 : gI N 68 6 = gI S 68 6 := agr_nI hA rfl
  unfold sayV at k
  refine v215_0 ?_
  rw [e28, e6]
  refine brK_b (fun z => ?_) (fun z => ?_)
  · have z2 : decide (gI S (nwC b) 4 = 0) = true := by
      cases hz : decide (gI S (nwC b) 4 = 0) with
      | true => rfl
      | false => rw [hz] at z; exact absurd z (by decide)
    rw [z2] at k
    exact k N (agr_r N)
  · have z2 : decide (gI S (nwC b) 4 = 0) = false := by
      cases hz : decide (gI S (nwC b) 4 = 0) with
      | false => rfl
      | true => rw [hz] at z; exact absurd z (by decide)
    rw [z2] at k
    obtain ⟨d, rfl⟩ := ex1 (e := 2) (show 2 + 1 ≤ d by omega)
    refine v216_0 ?_
    have fa : agr (fr [84, 85]) N (sI (sI (sI (sI (sI (sI N 84 0 m) 84 1 g) 84 2 l) 84 3 h) 84 4 r) 84 5 (gI S 68 6)) := agr_sI rfl (agr_sI rfl (agr_sI rfl (agr_sI rfl (agr_sI rfl (agr_sI rfl (agr_r N))))))
    have hA2 := agr_t hA (fr_m (q := pRf b) (fun a ha j => by
      rcases List.mem_cons.mp ha with e | e
      · rw [e]; exact pR84 b j
      · rw [List.mem_singleton.mp e]; exact pR85 b j) fa)
    have : (61 * 0 : Int32) = nI 0 := rfl
    rw [this]
    refine l216 (S := S) (s := (m, g, l, h)) (t := gI S 68 6) (r := r) (by omega) hL (ix (gI S (nwC b) 4)) 0 _ 0 (by omega) rfl hA2 ⟨rfl, rfl, rfl, rfl, rfl, rfl⟩ (fun N' hN' v hv => ⟨rfl, ?_⟩)
    have k2 := k N' (agr_t fa (fr_s (by decide) hN'))
    have e : sayL (gI S (nwC b + 1)) (gI S (nwC b + 2)) (gI S (nwC b + 3)) (m, g, l, h) (gI S 68 6) r (ix (gI S (nwC b) 4)) 0 (lstart S (nwC b) 0) = sayL (gI S (nwC b + 1)) (gI S (nwC b + 2)) (gI S (nwC b + 3)) (m, g, l, h) (gI S 68 6) r (ix (gI S (nwC b) 4)) 0 0 := rfl
    rw [hv, e]
    exact k2
theorem c215 {f : Int32 → Mm → Prop} {m g l h : Int32} {N : M2} (hd : 4 ≤ d) (hL : LawR b S) (hA : agr (pC b) S N) (k : ∀ N', agr (fr [84, 85]) N N' → f (sayV b S (m, g, l, h) (gI S 68 6) r) (FR b, N')) : WP d 107 215 0 [.ref 67, .int m, .int g, .int l, .int h, .int r] [] 107 (FR b, N) (rI f) := c215r hd hL (pR_le hA) k
end REFW
