theorem nI_pred' (n : Nat) : nI (n + 1) + (-1) = nI n := by
  rw [show nI (n + 1) + (-1) = nI (n + 1) - 1 from (Int32.sub_eq_add_neg ..).symm]
  exact nI_pred n
theorem len20 {r : Nat} (h : kd r = 20 ∨ kd r = 26) (M : M2) : lenN M r = ln r ∧ lenI M r = nI (ln r) ∧ ∀ i, ldX M r i = gI M r (ix i) := by
  have h25 : Nat.beq (kd r) 25 = false := by rcases h with h | h <;> rw [h] <;> rfl
  refine ⟨by unfold lenN; rw [h25]; rfl, by unfold lenI; rw [h25]; rfl, fun i => by unfold ldX; rw [h25]; rfl⟩
theorem nw_k : ∀ b, nwC b < 107 ∧ kd (nwC b) = 2 ∧ FR b (nwC b) 0 = some (nwC b + 1) ∧ FR b (nwC b) 1 = some (nwC b + 2) ∧ FR b (nwC b) 2 = some (nwC b + 3) ∧ kd (nwC b + 1) = 20 ∧ kd (nwC b + 2) = 20 ∧ kd (nwC b + 3) = 20 ∧ ln (nwC b + 1) = 120 ∧ ln (nwC b + 2) = 60 ∧ ln (nwC b + 3) = 60 ∧ nwC b + 3 < 107 := by decide
theorem nw_p : ∀ b j, pC b (nwC b) j = true ∧ pC b (nwC b + 1) j = true ∧ pC b (nwC b + 2) j = true ∧ pC b (nwC b + 3) j = true := by
  intro b j; cases b <;> exact ⟨rfl, rfl, rfl, rfl⟩
theorem ev1_pu {s : St} {t r c : Int32} {st : List Int32} (h : isPu c = true) : ev1 s t r c st = puV s t r c :: st := by unfold ev1; rw [h]; rfl
theorem ev1_un {s : St} {t r c x : Int32} {u : List Int32} (h : isPu c = false) (h2 : isUn c = true) : ev1 s t r c (x :: u) = unV c x :: u := by unfold ev1; rw [h, h2]; rfl
theorem ev1_bin {s : St} {t r c x y : Int32} {u : List Int32} (h : isPu c = false) (h2 : isUn c = false) : ev1 s t r c (y :: x :: u) = joinV c x y :: u := by unfold ev1; rw [h, h2]; rfl
/-- the signs are such as there are -/
def sgK (c : Int32) : Prop := isPu c = false → isUn c = false → isBin c = true
theorem sgK_of {c a w : Int32} (h : sgR c a w) : sgK c := by
  intro h1 h2
  rcases sgR_cases h with q | q | q | q | q
  · exact ff h1 q.1
  · exact ff h1 q.1
  · exact ff h2 q.2.1
  · exact ff h2 q.2.1
  · exact q.2.2.1
theorem HS_a {M M' : M2} {h : Nat} {s : St} {t : Int32} {l : List Nat} (hh : nin l h = true) (ha : agr (fr l) M M') (k : HS M h s t) : HS M' h s t :=
  ⟨(ha h 0 hh).1.trans k.1, (ha h 1 hh).1.trans k.2.1, (ha h 2 hh).1.trans k.2.2.1, (ha h 3 hh).1.trans k.2.2.2.1, (ha h 6 hh).1.trans k.2.2.2.2⟩
theorem pC17 : ∀ b j, pC b 17 j = false := fun _ _ => rfl
section WORKED
variable {d : Nat} {b : Bool} {S : M2} {s : St} {t r : Int32}
theorem l61 {Q : QT} {h : Nat} {u1 : Value} (hd : 1 ≤ d) (hr : h < 107) (hk : kd h = 3) {e : Nat} (hz : e ≤ 120) (hg : ∀ i, i < e → sgK (gI S (nwC b + 1) i)) : ∀ (m k : Nat) (st : List Int32) (N : M2) (u7 u8 : Value), k + m = e → st.length ≤ k → hrun (gI S (nwC b + 1)) m k st.length = some 1 → agr (pC b) S N → HS N h s t → stk N 17 st → (∀ N', agr (fr [17]) N N' → Q (some (.int (hd0 (evS (gI S (nwC b + 1)) s t r m k st)))) (FR b, N')) → WP (d + 1) 107 61 6 [.ref 7, u1, .int (nI e), .ref h, .int r, .int (nI st.length), .int (nI k), u7, u8] [] 107 (FR b, N) Q := by
  have h17 : nin [17] h = true := by
    unfold nin nin
    have : Nat.beq h 17 = false := by
      cases hb : Nat.beq h 17 with
      | false => rfl
      | true =>
        have := Nat.eq_of_beq_eq_true hb
        subst this
        exact absurd hk (by decide)
    rw [this]; rfl
  intro m
  induction m with
  | zero =>
    intro k st N u7 u8 hm hl hh hA hs hst q
    have hk2 : k = e := by omega
    subst hk2
    have h1 : st.length = 1 := Option.some.inj hh
    match st, h1 with
    | [x], _ =>
      refine v61_6 (brK_t ((cnt_lt rfl (by omega) (Nat.le_refl _)).mpr rfl) (v61_214 (brK_f (show ¬ nI 1 ≤ 0 by decide) (iK_i (show ix (nI 1 - 1) < 120 by decide) ?_))))
      have e0 : ix (nI [x].length - 1) = 0 := by show ix (nI 1 - 1) = 0; decide
      have e2 : gI N 17 (ix (nI [x].length - 1)) = x := by rw [e0]; exact hst.1
      have q2 := q N (agr_r N)
      have e3 : hd0 (evS (gI S (nwC b + 1)) s t r 0 k [x]) = x := rfl
      rw [e3] at q2
      rw [e2]
      exact q2
  | succ m ih =>
    intro k st N u7 u8 hm hl hh hA hs hst q
    obtain ⟨h', hh1, hh2⟩ := hrun_s hh
    have n1 := nI_toInt (n := k) (by omega)
    have n2 := nI_toInt (n := st.length) (by omega)
    have nk := nw_k b
    have hlen := len20 (Or.inl nk.2.2.2.2.2.1) N
    have sgk : gI N (nwC b + 1) (ix (nI k)) = gI S (nwC b + 1) k := by rw [ix_n (by omega)]; exact agr_nI hA (nw_p b k).2.1
    have hgk := hg k (by omega)
    refine v61_6 (brK_f (fun z => by have := (cnt_lt (n := k) (m := e) rfl (by omega) (by omega)).mp z; omega) (brK_f (fun z => by rw [i_lt, z_toInt] at z; omega) (brK_f (fun z => by rw [i_le, show (120 : Int32).toInt = 120 from rfl] at z; omega) (oK_i nk.1 nk.2.1 (rK_i nk.2.2.1 (rdI_i (by omega) (Or.inl nk.2.2.2.2.2.1) (iK_i (by rw [hlen.1, nk.2.2.2.2.2.2.2.2.1, ix_n (by omega)]; omega) ?_)))))))
    rw [hlen.2.2, sgk]
    have q0 : ∀ N', agr (fr [17]) N N' → Q (some (.int (hd0 (evS (gI S (nwC b + 1)) s t r m (k + 1) (ev1 s t r (gI S (nwC b + 1) k) st))))) (FR b, N') := q
    generalize gI S (nwC b + 1) k = c at hh1 hgk q0 ⊢
    have go : ∀ (v : Int32) (st' : List Int32) (w7 w8 : Value), ev1 s t r c st = v :: st' → stk N 17 st' → st'.length ≤ k → h' = st'.length + 1 → WP (d + 1) 107 61 208 [.ref 7, u1, .int (nI e), .ref h, .int r, .int (nI (st'.length + 1)), .int (nI k), w7, w8] [] 107 (FR b, sI N 17 st'.length v) Q := by
      intro v st' w7 w8 he hs' hlk hh'
      refine v61_208 ?_
      rw [← nI_succ]
      have hA2 : agr (pC b) S (sI N 17 st'.length v) := agr_sI (pC17 b _) hA
      have hF2 : agr (fr [17]) N (sI N 17 st'.length v) := agr_sI rfl (agr_r N)
      have := ih (k + 1) (v :: st') (sI N 17 st'.length v) w7 w8 (by omega) (by show st'.length + 1 ≤ k + 1; omega) (by rw [show (v :: st').length = h' from hh'.symm]; exact hh2) hA2 (HS_a h17 hF2 hs) (stk_push hs') (fun N' hN' => by have := q0 N' (agr_t hF2 hN'); rw [he] at this; exact this)
      exact this
    cases hp : isPu c with
    | true =>
      have hh3 := hgt_pu hp hh1
      have l120 : (nI st.length : Int32) < 120 := by rw [i_lt, show (120 : Int32).toInt = 120 from rfl]; omega
      have g2 : WP (d + 1) 107 61 208 [.ref 7, u1, .int (nI e), .ref h, .int r, .int (nI st.length + 1), .int (nI k), .int c, u8] [] 107 (FR b, sI N 17 (ix (nI st.length)) (puV s t r c)) Q := by
        rw [ix_n (by omega), ← nI_succ]
        exact go _ st _ _ (ev1_pu hp) hst hl hh3
      unfold puV at g2
      cases h1000 : decide (1000 ≤ c) with
      | true =>
        rw [h1000] at g2
        refine v61_36 (brK_t (of_decide_eq_true h1000) (v61_52 (brK_t l120 (brK_f ?_ (iK_i (by rw [ix_n (by omega)]; omega) g2)))))
        have := of_decide_eq_true h1000
        intro z
        rw [i_le] at this
        rw [i_lt] at z
        omega
      | false =>
        rw [h1000] at g2
        have hnm : isNm c = true := by
          unfold isPu at hp
          rw [h1000, Bool.false_or] at hp
          exact hp
        refine v61_36 (brK_f (of_decide_eq_false h1000) (c53 (by omega) ⟨rfl, brK_b (fun z => ff z hnm) (fun _ => v61_52 (brK_t l120 (brK_t (i_nle (of_decide_eq_false h1000)) (c62 (by omega) hr hk hs hnm ⟨rfl, iK_i (by rw [ix_n (by omega)]; omega) g2⟩))))⟩))
    | false =>
      have h1000 : decide (1000 ≤ c) = false := by
        unfold isPu at hp
        cases hz : decide (1000 ≤ c) with
        | false => rfl
        | true => rw [hz] at hp; exact absurd hp (by simp)
      have hnm : isNm c = false := by
        unfold isPu at hp
        rw [h1000, Bool.false_or] at hp
        exact hp
      refine v61_36 (brK_f (of_decide_eq_false h1000) (c53 (by omega) ⟨rfl, brK_b (fun _ => ?_) (fun z => ff hnm z)⟩))
      cases hu : isUn c with
      | true =>
        obtain ⟨hh3, hlen1⟩ := hgt_un hp hu hh1
        match st, hlen1 with
        | x :: u, _ =>
          have el : (x :: u).length = u.length + 1 := rfl
          have e1 : ix (nI (x :: u).length - 1) = u.length := by rw [el, nI_pred, ix_n (by omega)]
          have ex : gI N 17 (ix (nI (x :: u).length - 1)) = x := by rw [e1]; exact hst.1
          have c113 : WP (d + 1) 107 61 113 [.ref 7, u1, .int (nI e), .ref h, .int r, .int (nI (x :: u).length), .int (nI k), .int c, u8] [] 107 (FR b, N) Q := by
            have g2 := fun w8 => go (unV c x) u (.int c) w8 (ev1_un hp hu) hst.2 (by omega) (by omega)
            unfold unV at g2
            refine v61_113 (brK_t ?_ (iK_i (by rw [e1]; omega) (brK_d (fun z => iK_i (by rw [e1]; omega) ?_) (fun z => brK_d (fun z2 => iK_i (by rw [e1]; omega) ?_) (fun z2 => iK_i (by rw [e1]; omega) ?_)))))
            · rw [i_le, show (1 : Int32).toInt = 1 from rfl]; omega
            · rw [ex, e1]; rw [z] at g2; exact g2 _
            · rw [ex, e1]; rw [ex] at z2; rw [z, z2] at g2; exact g2 _
            · rw [ex, e1]; rw [ex] at z2; rw [z, z2] at g2; exact g2 _
          exact v61_99 ⟨fun _ => c113, fun z => ⟨fun _ => c113, fun z2 => by
            unfold isUn at hu
            rw [decide_eq_false z, decide_eq_false z2] at hu
            exact absurd hu (by decide)⟩⟩
      | false =>
        obtain ⟨hh3, hlen1⟩ := hgt_bin hp hu hh1
        match st, hlen1 with
        | y :: x :: u, _ =>
          have el : (y :: x :: u).length = u.length + 1 + 1 := rfl
          have e1 : nI (y :: x :: u).length + (-1) = nI (u.length + 1) := by rw [el, nI_pred']
          have e2 : nI (u.length + 1) - 1 = nI u.length := nI_pred _
          have ey : gI N 17 (u.length + 1) = y := hst.1
          have exx : gI N 17 u.length = x := hst.2.1
          have hb := hgk hp hu
          have hz33 : ¬ c = 33 := fun z => by subst z; exact absurd hu (by decide)
          have hz126 : ¬ c = 126 := fun z => by subst z; exact absurd hu (by decide)
          refine v61_99 (brK_f hz33 (brK_f hz126 (v61_167 (brK_t ?_ ?_))))
          · rw [i_le, show (2 : Int32).toInt = 2 from rfl]; omega
          · rw [e1]
            refine v61_178 (v61_188 (iK_i (by rw [e2, ix_n (by omega)]; omega) (iK_i (by rw [ix_n (by omega)]; omega) ?_)))
            rw [e2, ix_n (by omega), ix_n (by omega), ey, exx]
            refine v61_204 (c63 (by omega) hb ⟨rfl, iK_i (by rw [ix_n (by omega)]; omega) ?_⟩)
            rw [ix_n (by omega)]
            exact go (joinV c x y) u _ _ (ev1_bin hp hu) hst.2.2 (by omega) (by omega)
theorem c61 {h : Nat} {x y : Int32} {f : Int32 → Mm → Prop} {N : M2} (hd : 2 ≤ d) (hr : h < 107) (hk : kd h = 3) (hz : ix y ≤ 120) (hxy : ix x ≤ ix y) (hg : ∀ i, i < ix y → sgK (gI S (nwC b + 1) i)) (hh : hrun (gI S (nwC b + 1)) (ix y - ix x) (ix x) 0 = some 1) (hA : agr (pC b) S N) (hs : HS N h s t) (k : ∀ N', agr (fr [17]) N N' → f (evl (gI S (nwC b + 1)) s t r (ix x) (ix y)) (FR b, N')) : WP d 107 61 0 [.ref 7, .int x, .int y, .ref h, .int r, U, U, U, U] [] 107 (FR b, N) (rI f) := by
  obtain ⟨d, rfl⟩ := ex1 (e := 1) hd
  refine v61_0 ?_
  rw [← n_ix x, ← n_ix y]
  have := l61 (d := d) (Q := rI f) (h := h) (u1 := .int (nI (ix x))) (b := b) (S := S) (s := s) (t := t) (r := r) (by omega) hr hk hz hg (ix y - ix x) (ix x) [] N U U (by omega) (Nat.zero_le _) hh hA hs trivial k
  exact this
end WORKED
