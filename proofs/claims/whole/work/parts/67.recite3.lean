/-! recite -/
def su1 (b : Bool) (S : M2) (i k : Nat) (mo : Int32) (j : Nat) (st : Nat × Int32) : Nat × Int32 :=
  bif decide (bitV mo (nI (j / 10)) = 0) then st else bif decide (wbN b S i k (nI (j / 10)) (nI (j % 10)) = 0) then st
  else (st.1 ||| 2 ^ (j % 10), st.2 ||| ((1 : Int32) <<< (nmM S i k (nI (j / 10)) (nI (j % 10)) &&& 31)))
def suI (b : Bool) (S : M2) (i k : Nat) (mo : Int32) : Nat → Nat → Nat × Int32 → Nat × Int32
  | 0, _, st => st
  | m + 1, j, st => suI b S i k mo m (j + 1) (su1 b S i k mo j st)
def suW (b : Bool) (S : M2) (i : Nat) : Nat → Nat → Int32 → Nat → Nat
  | 0, _, _, c => c
  | m + 1, k, mo, c => suW b S i m (k + 1) (suI b S i k mo 160 0 (0, 0)).2 (c + (bif decide (pop (suI b S i k mo 160 0 (0, 0)).1 = 1) then 1 else 0))
def fsR (b : Bool) (S : M2) (i k : Nat) (m : Int32) : Nat → Nat → Nat
  | 0, r => r
  | n + 1, r => bif decide (wbN b S i k m (nI r) = 0) then fsR b S i k m n (r + 1) else r
def raW (b : Bool) (S : M2) (i : Nat) (w : Int32) : Nat → Nat → Int32 → Int32
  | 0, _, _ => -2
  | n + 1, k, m => bif decide (nI k = w) then nI (fsR b S i k m 9 0) else raW b S i w n (k + 1) (nmM S i k m (nI (fsR b S i k m 9 0)))
theorem su1_lt {b : Bool} {S : M2} {i k : Nat} {mo : Int32} {j : Nat} {st : Nat × Int32} (h : st.1 < 1024) : (su1 b S i k mo j st).1 < 1024 := by
  unfold su1
  cases decide (bitV mo (nI (j / 10)) = 0) with
  | true => exact h
  | false =>
    cases decide (wbN b S i k (nI (j / 10)) (nI (j % 10)) = 0) with
    | true => exact h
    | false =>
      have p2 : 2 ^ (j % 10) < 2 ^ 10 := Nat.pow_lt_pow_right (by decide) (Nat.mod_lt _ (by decide))
      exact Nat.or_lt_two_pow (n := 10) h p2
theorem suI_skip {b : Bool} {S : M2} {i k : Nat} {mo : Int32} : ∀ c a j st, (∀ j', j ≤ j' → j' < j + c → su1 b S i k mo j' st = st) → suI b S i k mo (c + a) j st = suI b S i k mo a (j + c) st
  | 0, a, j, st, _ => by rw [Nat.zero_add]; rfl
  | c + 1, a, j, st, h => by
    rw [show c + 1 + a = (c + a) + 1 by omega]
    show suI b S i k mo (c + a) (j + 1) (su1 b S i k mo j st) = _
    rw [h j (by omega) (by omega), suI_skip c a (j + 1) st (fun j' h1 h2 => h j' (by omega) (by omega)), show j + 1 + c = j + (c + 1) by omega]
theorem fsR_ok {b : Bool} {S : M2} {i k : Nat} {m : Int32} : ∀ n r, r + n = 9 → fsR b S i k m n r ≤ 9
  | 0, r, h => by show r ≤ 9; omega
  | n + 1, r, h => by
    unfold fsR
    cases decide (wbN b S i k m (nI r) = 0) with
    | true => exact fsR_ok n (r + 1) (by omega)
    | false => show r ≤ 9; omega
section RECITE3
variable {d : Nat} {b : Bool} {S : M2} {i : Nat}
theorem dv10 {j : Nat} (h : j < 1000) : (nI j / 10 : Int32) = nI (j / 10) ∧ (nI j - nI j / 10 * 10 : Int32) = nI (j % 10) := ⟨nI_div (b := 10) (by omega) (by decide), nI_md (b := 10) (by omega) (by decide)⟩
theorem c109 {f : Int32 → Mm → Prop} {m0 : Int32} {N : M2} (hd : 6 ≤ d) (hK : RcK b S i N) (q : f (nI (suW b S i (rcL S i) 0 ((1 : Int32) <<< (m0 &&& 31)) 0)) (FR b, N)) : WP d 107 109 0 [.ref 48, .int m0, U, U, U, U, U, U, U, U] [] 107 (FR b, N) (rI f) := by
  obtain ⟨d, rfl⟩ := ex1 (e := 5) hd
  have h12 := (rcL_ok S i).1
  obtain ⟨h48, hp, ht, hw⟩ := hK
  have l : ∀ n k (mo : Int32) (c : Nat) (u1 u5 u6 u7 u8 u9 : Value), k + n = rcL S i → f (nI (suW b S i n k mo c)) (FR b, N) → WP (d + 1) 107 109 9 [.ref 48, u1, .int (nI c), .int mo, .int (nI k), u5, u6, u7, u8, u9] [] 107 (FR b, N) (rI f) := by
    intro n
    induction n with
    | zero =>
      intro k mo c u1 u5 u6 u7 u8 u9 hk q
      have : k = rcL S i := by omega
      subst this
      exact v109_9 (brK_t (by rw [h48, i_le]; exact Int.le_refl _) q)
    | succ n ih =>
      intro k mo c u1 u5 u6 u7 u8 u9 hk q
      refine v109_9 (brK_f (by rw [h48, nI_leI (by omega) (by omega)]; omega) ?_)
      have q : f (nI (suW b S i n (k + 1) (suI b S i k mo 160 0 (0, 0)).2 (c + (bif decide (pop (suI b S i k mo 160 0 (0, 0)).1 = 1) then 1 else 0)))) (FR b, N) := q
      have inner : ∀ m j (st : Nat × Int32) (u8 u9 : Value), j + m = 160 → st.1 < 1024 → f (nI (suW b S i n (k + 1) (suI b S i k mo m j st).2 (c + (bif decide (pop (suI b S i k mo m j st).1 = 1) then 1 else 0)))) (FR b, N) → WP (d + 1) 107 109 27 [.ref 48, u1, .int (nI c), .int mo, .int (nI k), .int (nI st.1), .int st.2, .int (nI j), u8, u9] [] 107 (FR b, N) (rI f) := by
        intro m
        induction m with
        | zero =>
          intro j st u8 u9 hj hst q
          have : j = 160 := by omega
          subst this
          have q : f (nI (suW b S i n (k + 1) st.2 (c + (bif decide (pop st.1 = 1) then 1 else 0)))) (FR b, N) := q
          have hpl := pop_le st.1
          refine v109_27 (brK_t (by decide) (c110 (by omega) (by omega) ⟨rfl, ⟨fun z => ?_, fun z => ?_⟩⟩))
          · have : pop st.1 = 1 := by
              have := (ix_eq (n := 1) (by decide)).mp z
              rw [ix_n (by omega)] at this
              exact this
            rw [decide_eq_true this] at q
            rw [nI_1, nI_1]
            exact ih (k + 1) _ _ _ _ _ _ _ _ (by omega) q
          · have : ¬ pop st.1 = 1 := fun e => z (by rw [e]; rfl)
            rw [decide_eq_false this] at q
            rw [Int32.add_zero, nI_1]
            exact ih (k + 1) _ _ _ _ _ _ _ _ (by omega) q
        | succ m ihm =>
          intro j st u8 u9 hj hst q
          have q : f (nI (suW b S i n (k + 1) (suI b S i k mo m (j + 1) (su1 b S i k mo j st)).2 (c + (bif decide (pop (suI b S i k mo m (j + 1) (su1 b S i k mo j st)).1 = 1) then 1 else 0)))) (FR b, N) := q
          have hd10 := dv10 (j := j) (by omega)
          have hlt := su1_lt (b := b) (S := S) (i := i) (k := k) (mo := mo) (j := j) hst
          refine v109_27 (brK_f (by rw [show (160 : Int32) = nI 160 from rfl, nI_leI (by decide) (by omega)]; omega) ?_)
          rw [hd10.2, hd10.1, nI_1]
          have hm16 : ix (nI (j / 10)) < 16 := by rw [ix_n (by omega)]; omega
          have hr10 : ix (nI (j % 10)) < 10 := by rw [ix_n (by omega)]; omega
          unfold su1 at q hlt
          refine brK_d (fun z => ?_) (fun z => c106 (S := S) (by omega) (by omega) hm16 hr10 hp (ht k (by omega)) (hw (k + 1) (by omega)) ⟨rfl, ?_⟩)
          · have z : decide (bitV mo (nI (j / 10)) = 0) = true := z
            rw [z] at q
            exact ihm (j + 1) st _ _ (by omega) hst q
          · have z : decide (bitV mo (nI (j / 10)) = 0) = false := z
            rw [z] at q hlt
            have w12 := @wbN_12 b S i k (nI (j / 10)) (nI (j % 10))
            have lg := lg_0 (Nat.lt_of_le_of_lt w12 p12)
            refine ⟨fun y => ?_, fun y => c107 (S := S) (by omega) (by omega) hp ⟨rfl, ?_⟩⟩
            · rw [decide_eq_true (lg.2.mp y)] at q
              exact ihm (j + 1) st _ _ (by omega) hst q
            · rw [decide_eq_false (fun e => y (lg.2.mpr e))] at q hlt
              rw [sh_1 (j % 10) (by omega), nI_or (by omega) (Nat.lt_trans (Nat.pow_lt_pow_right (by decide) (show j % 10 < 31 by omega)) (by decide))]
              exact ihm (j + 1) _ _ _ (by omega) hlt q
      exact inner 160 0 (0, 0) _ _ (by omega) (by decide) q
  exact v109_0 (l (rcL S i) 0 _ 0 _ _ _ _ _ _ (by omega) q)
theorem c111 {f : Int32 → Mm → Prop} {w m0 : Int32} {N : M2} (hd : 6 ≤ d) (hm0 : ix m0 < 16) (hK : RcK b S i N) (q : f (raW b S i w (rcL S i) 0 m0) (FR b, N)) : WP d 107 111 0 [.ref 48, .int w, .int m0, U, U] [] 107 (FR b, N) (rI f) := by
  obtain ⟨d, rfl⟩ := ex1 (e := 5) hd
  have h12 := (rcL_ok S i).1
  obtain ⟨h48, hp, ht, hw⟩ := hK
  have l : ∀ n k (m : Int32) (u4 : Value), k + n = rcL S i → ix m < 16 → f (raW b S i w n k m) (FR b, N) → WP (d + 1) 107 111 2 [.ref 48, .int w, .int m, .int (nI k), u4] [] 107 (FR b, N) (rI f) := by
    intro n
    induction n with
    | zero =>
      intro k m u4 hk hm q
      have : k = rcL S i := by omega
      subst this
      exact v111_2 (brK_t (by rw [h48, i_le]; exact Int.le_refl _) q)
    | succ n ih =>
      intro k m u4 hk hm q
      unfold raW at q
      have fl := @fsR_ok b S i k m 9 0 rfl
      have at39 : ∀ r, r = fsR b S i k m 9 0 → WP (d + 1) 107 111 39 [.ref 48, .int w, .int m, .int (nI k), .int (nI r)] [] 107 (FR b, N) (rI f) := by
        intro r hr
        subst hr
        refine v111_39 (brK_d (fun z => ?_) (fun z => c107 (S := S) (by omega) (by omega) hp ⟨rfl, ?_⟩))
        · rw [z] at q; exact q
        · rw [z] at q
          rw [nI_1]
          exact ih (k + 1) _ _ (by omega) (nmM_lt hm ((rcL_ok S i).2.2 k (by omega)) (by rw [ix_n (by omega)]; omega)) q
      have inner : ∀ a r, r + a = 9 → fsR b S i k m a r = fsR b S i k m 9 0 → WP (d + 1) 107 111 13 [.ref 48, .int w, .int m, .int (nI k), .int (nI r)] [] 107 (FR b, N) (rI f) := by
        intro a
        induction a with
        | zero =>
          intro r hr he
          have : r = 9 := by omega
          subst this
          exact v111_13 (brK_t (by decide) (at39 9 he))
        | succ a iha =>
          intro r hr he
          unfold fsR at he
          have w12 := @wbN_12 b S i k m (nI r)
          have lg := lg_0 (Nat.lt_of_le_of_lt w12 p12)
          refine v111_13 (brK_f (by rw [show (9 : Int32) = nI 9 from rfl, nI_leI (by decide) (by omega)]; omega) (c106 (S := S) (by omega) (by omega) hm (by rw [ix_n (by omega)]; omega) hp (ht k (by omega)) (hw (k + 1) (by omega)) ⟨rfl, ⟨fun y => ?_, fun y => ?_⟩⟩))
          · rw [decide_eq_true (lg.1.mp y)] at he
            rw [nI_1]
            exact iha (r + 1) (by omega) he
          · rw [decide_eq_false (fun e => y (lg.1.mpr e))] at he
            exact at39 r he
      refine v111_2 (brK_f (by rw [h48, nI_leI (by omega) (by omega)]; omega) ?_)
      exact inner 9 0 (by omega) rfl
  exact v111_0 (l (rcL S i) 0 m0 _ (by omega) hm0 q)
/-! the reference's -/
theorem c249 {f : Int32 → Mm → Prop} {N : M2} (hd : 8 ≤ d) (hI : INV b S) (hA : agr (pC b) S N) (hK : RrK b S i N) (q : ∀ N', agr (fr [84, 85]) N N' → f (nI (suW b S i (rcL S i) 0 ((1 : Int32) <<< (gI S 5 0 &&& 31)) 0)) (FR b, N')) : WP d 107 249 0 [.ref 67, U, U, U, U, U, U, U] [] 107 (FR b, N) (rI f) := by
  obtain ⟨d, rfl⟩ := ex1 (e := 7) hd
  have h12 := (rcL_ok S i).1
  have pc : ∀ {N' : M2}, agr (fr [84, 85]) N N' → agr (pC b) S N' := fun h => agr_t hA (frw_pC (frw_s h))
  have l : ∀ n k (mo : Int32) (c : Nat) (N2 : M2) (u4 u5 u6 u7 : Value), k + n = rcL S i → agr (fr [84, 85]) N N2 → (∀ N', agr (fr [84, 85]) N N' → f (nI (suW b S i n k mo c)) (FR b, N')) → WP (d + 1) 107 249 13 [.ref 67, .int mo, .int (nI c), .int (nI k), u4, u5, u6, u7] [] 107 (FR b, N2) (rI f) := by
    intro n
    induction n with
    | zero =>
      intro k mo c N2 u4 u5 u6 u7 hk hF q
      have : k = rcL S i := by omega
      subst this
      exact v249_13 (brK_t (by rw [(RrK_s hK hF).1, i_le]; exact Int.le_refl _) (q N2 hF))
    | succ n ih =>
      intro k mo c N2 u4 u5 u6 u7 hk hF q
      refine v249_13 (brK_f (by rw [(RrK_s hK hF).1, nI_leI (by omega) (by omega)]; omega) ?_)
      have q : ∀ N', agr (fr [84, 85]) N N' → f (nI (suW b S i n (k + 1) (suI b S i k mo 160 0 (0, 0)).2 (c + (bif decide (pop (suI b S i k mo 160 0 (0, 0)).1 = 1) then 1 else 0)))) (FR b, N') := q
      have outer : ∀ mm m (st : Nat × Int32) (N3 : M2) (u7 : Value), m + mm = 16 → st.1 < 1024 → agr (fr [84, 85]) N N3 → (∀ N', agr (fr [84, 85]) N N' → f (nI (suW b S i n (k + 1) (suI b S i k mo (10 * mm) (10 * m) st).2 (c + (bif decide (pop (suI b S i k mo (10 * mm) (10 * m) st).1 = 1) then 1 else 0)))) (FR b, N')) → WP (d + 1) 107 249 30 [.ref 67, .int mo, .int (nI c), .int (nI k), .int st.2, .int (nI st.1), .int (nI m), u7] [] 107 (FR b, N3) (rI f) := by
        intro mm
        induction mm with
        | zero =>
          intro m st N3 u7 hm hst hF3 q
          have : m = 16 := by omega
          subst this
          have q : ∀ N', agr (fr [84, 85]) N N' → f (nI (suW b S i n (k + 1) st.2 (c + (bif decide (pop st.1 = 1) then 1 else 0)))) (FR b, N') := q
          have hpl := pop_le st.1
          refine v249_30 (brK_t (by decide) (c250 (by omega) (by omega) ⟨rfl, ⟨fun z => ?_, fun z => ?_⟩⟩))
          · have : pop st.1 = 1 := by
              have := (ix_eq (n := 1) (by decide)).mp z
              rw [ix_n (by omega)] at this
              exact this
            rw [decide_eq_true this] at q
            rw [nI_1, nI_1]
            exact ih (k + 1) _ _ N3 _ _ _ _ (by omega) hF3 q
          · have : ¬ pop st.1 = 1 := fun e => z (by rw [e]; rfl)
            rw [decide_eq_false this] at q
            rw [nI_1]
            exact ih (k + 1) _ _ N3 _ _ _ _ (by omega) hF3 q
        | succ mm ihm =>
          intro m st N3 u7 hm hst hF3 q
          refine v249_30 (brK_f (by rw [show (16 : Int32) = nI 16 from rfl, nI_leI (by decide) (by omega)]; omega) ?_)
          have inner : ∀ a r (st : Nat × Int32) (N4 : M2), r + a = 10 → st.1 < 1024 → agr (fr [84, 85]) N N4 → (∀ N', agr (fr [84, 85]) N N' → f (nI (suW b S i n (k + 1) (suI b S i k mo (a + 10 * mm) (10 * m + r) st).2 (c + (bif decide (pop (suI b S i k mo (a + 10 * mm) (10 * m + r) st).1 = 1) then 1 else 0)))) (FR b, N')) → WP (d + 1) 107 249 40 [.ref 67, .int mo, .int (nI c), .int (nI k), .int st.2, .int (nI st.1), .int (nI m), .int (nI r)] [] 107 (FR b, N4) (rI f) := by
            intro a
            induction a with
            | zero =>
              intro r st N4 hr hst hF4 q
              have : r = 10 := by omega
              subst this
              refine v249_40 (brK_t (by decide) ?_)
              rw [nI_1]
              rw [Nat.zero_add, show 10 * m + 10 = 10 * (m + 1) by omega] at q
              exact ihm (m + 1) st N4 _ (by omega) hst hF4 q
            | succ a iha =>
              intro r st N4 hr hst hF4 q
              have dj : (10 * m + r) / 10 = m := by omega
              have mj : (10 * m + r) % 10 = r := by omega
              refine v249_40 (brK_f (by rw [show (10 : Int32) = nI 10 from rfl, nI_leI (by decide) (by omega)]; omega) ⟨fun z => ?_, fun z => ?_⟩)
              · have z : bitV mo (nI m) = 1 := z
                have z0 : ¬ bitV mo (nI m) = 0 := fun e => by rw [e] at z; exact absurd z (by decide)
                have hK4 := RrK_s hK hF4
                have hm16 : ix (nI m) < 16 := by rw [ix_n (by omega)]; omega
                have hr10 : ix (nI r) < 10 := by rw [ix_n (by omega)]; omega
                have hlt := su1_lt (b := b) (S := S) (i := i) (k := k) (mo := mo) (j := 10 * m + r) hst
                rw [show a + 1 + 10 * mm = (a + 10 * mm) + 1 by omega] at q
                have q : ∀ N', agr (fr [84, 85]) N N' → f (nI (suW b S i n (k + 1) (suI b S i k mo (a + 10 * mm) (10 * m + r + 1) (su1 b S i k mo (10 * m + r) st)).2 (c + (bif decide (pop (suI b S i k mo (a + 10 * mm) (10 * m + r + 1) (su1 b S i k mo (10 * m + r) st)).1 = 1) then 1 else 0)))) (FR b, N') := q
                have hs1 : su1 b S i k mo (10 * m + r) st = bif decide (wbN b S i k (nI m) (nI r) = 0) then st else (st.1 ||| 2 ^ r, st.2 ||| ((1 : Int32) <<< (nmM S i k (nI m) (nI r) &&& 31))) := by
                  unfold su1
                  rw [dj, mj, decide_eq_false z0]
                  rfl
                rw [hs1] at q hlt
                have w12 := @wbN_12 b S i k (nI m) (nI r)
                have lg := lg_0 (Nat.lt_of_le_of_lt w12 p12)
                refine c245 (S := S) (by omega) hI (pc hF4) (by omega) hm16 hr10 hK4.2.1 (hK4.2.2 (k + 1) (by omega)) (fun N5 hN5 => ⟨rfl, ⟨fun y => ?_, fun y => iK_i (by rw [ix_n (by omega)]; omega) ?_⟩⟩)
                · rw [decide_eq_true (lg.1.mp y)] at q
                  rw [nI_1]
                  exact iha (r + 1) st N5 (by omega) hst (agr_t hF4 hN5) q
                · rw [decide_eq_false (fun e => y (lg.1.mpr e))] at q hlt
                  dsimp only
                  rw [ix_n (by omega), agr_nI hN5 rfl, hK4.2.1 k (by omega), nI_1, sh_1 r (by omega), nI_or (by omega) (Nat.lt_trans (Nat.pow_lt_pow_right (by decide) (show r < 31 by omega)) (by decide))]
                  exact iha (r + 1) _ N5 (by omega) hlt (agr_t hF4 hN5) q
              · have z : ¬ bitV mo (nI m) = 1 := z
                have z0 : bitV mo (nI m) = 0 := (bitV_01 mo (nI m)).resolve_right z
                rw [nI_1]
                rw [suI_skip (a + 1) (10 * mm) (10 * m + r) st (fun j' h1 h2 => by
                  unfold su1
                  rw [show j' / 10 = m by omega, decide_eq_true z0]
                  rfl), show 10 * m + r + (a + 1) = 10 * (m + 1) by omega] at q
                exact ihm (m + 1) st N4 _ (by omega) hst hF4 q
          rw [show 10 * (mm + 1) = 10 + 10 * mm by omega] at q
          exact inner 10 0 st N3 (by omega) hst hF3 q
      exact outer 16 0 (0, 0) N2 _ (by omega) (by decide) hF q
  refine v249_0 ?_
  rw [e68 hI hA (by decide)]
  exact l (rcL S i) 0 _ 0 N _ _ _ _ (by omega) (agr_r N) q
theorem c252 {f : Int32 → Mm → Prop} {k : Nat} {m : Int32} {N : M2} (hd : 8 ≤ d) (hI : INV b S) (hA : agr (pC b) S N) (hK : RrK b S i N) (hk : k < rcL S i) (hm : ix m < 16) (hpos : ¬ wyN b S i (rcL S i - k) k m = 0) (q : ∀ N', agr (fr [84, 85]) N N' → ¬ wbN b S i k m (nI (fsR b S i k m 9 0)) = 0 → f (nI (fsR b S i k m 9 0)) (FR b, N')) : WP d 107 252 0 [.ref 67, .int (nI k), .int m, U] [] 107 (FR b, N) (rI f) := by
  obtain ⟨d, rfl⟩ := ex1 (e := 7) hd
  have h12 := (rcL_ok S i).1
  rw [wy_s hk] at hpos
  have l : ∀ a r (N2 : M2), r + a = 9 → agr (fr [84, 85]) N N2 → (∀ r', r' < r → wbN b S i k m (nI r') = 0) → fsR b S i k m a r = fsR b S i k m 9 0 → WP (d + 1) 107 252 2 [.ref 67, .int (nI k), .int m, .int (nI r)] [] 107 (FR b, N2) (rI f) := by
    intro a
    induction a with
    | zero =>
      intro r N2 hr hF hz he
      have : r = 9 := by omega
      subst this
      have hK2 := RrK_s hK hF
      have w12 := @wbN_12 b S i k m (nI 9)
      have lg := lg_0 (Nat.lt_of_le_of_lt w12 p12)
      have he : 9 = fsR b S i k m 9 0 := he
      refine v252_2 (c245 (S := S) (by omega) hI (agr_t hA (frw_pC (frw_s hF))) hk hm (by decide) hK2.2.1 (hK2.2.2 (k + 1) (by omega)) (fun N3 hN3 => ⟨rfl, ⟨fun y => ?_, fun y => ?_⟩⟩))
      · exfalso
        refine hpos (sumN_0 10 (fun j hj => ?_))
        by_cases e : j = 9
        · subst e; exact lg.1.mp y
        · exact hz j (by omega)
      · have := q N3 (agr_t hF hN3)
        rw [← he] at this
        exact this (fun e => y (lg.1.mpr e))
    | succ a iha =>
      intro r N2 hr hF hz he
      have hK2 := RrK_s hK hF
      have w12 := @wbN_12 b S i k m (nI r)
      have lg := lg_0 (Nat.lt_of_le_of_lt w12 p12)
      unfold fsR at he
      refine v252_2 (c245 (S := S) (by omega) hI (agr_t hA (frw_pC (frw_s hF))) hk hm (by rw [ix_n (by omega)]; omega) hK2.2.1 (hK2.2.2 (k + 1) (by omega)) (fun N3 hN3 => ⟨rfl, ⟨fun y => ?_, fun y => ?_⟩⟩))
      · rw [decide_eq_true (lg.1.mp y)] at he
        rw [nI_1]
        refine iha (r + 1) N3 (by omega) (agr_t hF hN3) (fun r' hr' => ?_) he
        by_cases e : r' = r
        · subst e; exact lg.1.mp y
        · exact hz r' (by omega)
      · rw [decide_eq_false (fun e => y (lg.1.mpr e))] at he
        have he : r = fsR b S i k m 9 0 := he
        have := q N3 (agr_t hF hN3)
        rw [← he] at this
        exact this (fun e => y (lg.1.mpr e))
  exact v252_0 (l 9 0 N (by omega) (agr_r N) (fun r' h => absurd h (by omega)) rfl)
theorem c251 {f : Int32 → Mm → Prop} {w : Int32} {N : M2} (hd : 10 ≤ d) (hI : INV b S) (hA : agr (pC b) S N) (hK : RrK b S i N) (hw : ix w < rcL S i) (hpos : ¬ wyN b S i (rcL S i) 0 (gI S 5 0) = 0) (q : ∀ N', agr (fr [84, 85]) N N' → f (raW b S i w (rcL S i) 0 (gI S 5 0)) (FR b, N')) : WP d 107 251 0 [.ref 67, .int w, U, U] [] 107 (FR b, N) (rI f) := by
  obtain ⟨d, rfl⟩ := ex1 (e := 9) hd
  have h12 := (rcL_ok S i).1
  have l : ∀ n k (m : Int32) (N2 : M2), k + n = ix w → ix m < 16 → agr (fr [84, 85]) N N2 → ¬ wyN b S i (rcL S i - k) k m = 0 → (∀ N', agr (fr [84, 85]) N N' → f (raW b S i w (rcL S i - k) k m) (FR b, N')) → WP (d + 1) 107 251 9 [.ref 67, .int w, .int m, .int (nI k)] [] 107 (FR b, N2) (rI f) := by
    intro n
    induction n with
    | zero =>
      intro k m N2 hk hm hF hpos q
      have : k = ix w := by omega
      subst this
      have hK2 := RrK_s hK hF
      rw [show rcL S i - ix w = (rcL S i - (ix w + 1)) + 1 by omega] at q
      unfold raW at q
      rw [decide_eq_true (n_ix w)] at q
      refine v251_9 (brK_t (by rw [n_ix, i_le]; exact Int.le_refl _) ?_)
      have := c252 (b := b) (S := S) (d := d) (i := i) (k := ix w) (m := m) (N := N2) (f := fun v2 N1 => N1.1 = FR b ∧ rI f (some (.int v2)) (FR b, N1.2)) (by omega) hI (agr_t hA (frw_pC (frw_s hF))) hK2 hw hm hpos (fun N3 hN3 _ => ⟨rfl, q N3 (agr_t hF hN3)⟩)
      rw [n_ix] at this
      exact this
    | succ n ih =>
      intro k m N2 hk hm hF hpos q
      have hK2 := RrK_s hK hF
      have fl := @fsR_ok b S i k m 9 0 rfl
      have hne : ¬ nI k = w := fun e => by have := (ix_eq (n := k) (by omega)).mp e.symm; omega
      rw [show rcL S i - k = (rcL S i - (k + 1)) + 1 by omega] at q
      unfold raW at q
      rw [decide_eq_false hne] at q
      refine v251_9 (brK_f (fun z => ?_) (iK_i (by rw [ix_n (by omega)]; omega) (c252 (S := S) (by omega) hI (agr_t hA (frw_pC (frw_s hF))) hK2 (by omega) hm hpos (fun N3 hN3 hne0 => ⟨rfl, ?_⟩))))
      · rw [← n_ix w, nI_leI (by omega) (by omega)] at z
        omega
      · rw [ix_n (by omega), hK2.2.1 k (by omega), nI_1]
        have hr10 : ix (nI (fsR b S i k m 9 0)) < 10 := by rw [ix_n (by omega)]; omega
        refine ih (k + 1) _ N3 (by omega) (nmM_lt hm ((rcL_ok S i).2.2 k (by omega)) hr10) (agr_t hF hN3) ?_ q
        unfold wbN at hne0
        cases hc : rcB b S i k m (nI (fsR b S i k m 9 0)) with
        | false => rw [hc] at hne0; exact absurd rfl hne0
        | true => rw [hc] at hne0; exact hne0
  refine v251_0 ?_
  rw [e68 hI hA (by decide)]
  exact l (ix w) 0 _ N (by omega) (hI.2.1.1 0 (by decide)) (agr_r N) hpos q
def rctW (b : Bool) (S : M2) (i : Nat) (k : Int32) : Int32 :=
  bif decide (k = -1) then bI (!decide (wyN b S i (rcL S i) 0 (gI S 5 0) = 0)) else bif decide (wyN b S i (rcL S i) 0 (gI S 5 0) = 0) then -2
  else bif decide (k = -2) then nI (suW b S i (rcL S i) 0 ((1 : Int32) <<< (gI S 5 0 &&& 31)) 0) else raW b S i k (rcL S i) 0 (gI S 5 0)
def rctV (b : Bool) (S : M2) (x k : Int32) : Int32 := bif rg x 6 && decide (-2 ≤ k) then (bif isRowV S (ix x) 0 then rctW b S (ix x) k else refV S (ix x)) else -1
theorem raW_o {w : Int32} : ∀ n k m, (∀ j, k ≤ j → j < k + n → ¬ nI j = w) → raW b S i w n k m = -2
  | 0, _, _, _ => rfl
  | n + 1, k, m, h => by
    unfold raW
    rw [decide_eq_false (h k (by omega) (by omega))]
    exact raW_o n (k + 1) _ (fun j h1 h2 => h j (by omega) (by omega))
theorem P_recite (hI : INV b S) {x w : Int32} : PAIR b S 101 248 [.ref 4, .int x, .int w, U, U, U] [.ref 67, .int x, .int w, U, U] := by
  refine PAIR_ro hI (rctV b S x w) (fun d hd f k => ?_) (fun N hA d hd f k => ?_)
  · unfold rctV at k
    refine v101_0 (c18 (by omega) (fun h => ⟨rfl, ?_⟩) (fun h => ⟨rfl, brK_d (fun h2 => ?_) (fun h2 => ?_)⟩))
    · rw [h] at k; exact k S (agr_r S)
    · rw [h, h2] at k
      have hi := rg_tt h
      have hk := sh_kd _ hi
      refine oK_i hk.2.1 hk.1 (c19 (by omega) hi ⟨rfl, brK_b (fun h5 => oK_i hk.2.1 hk.1 (c66 (by omega) hi ⟨rfl, ?_⟩)) (fun h5 => c102 (S := S) (by omega) hI hi h5 (agr_r S) (fun N' hN' hK => ⟨rfl, ?_⟩))⟩)
      · rw [h5] at k; exact k S (agr_r S)
      · rw [h5] at k
        have hA := frr_pC (b := b) hN'
        have k2 : f (rctW b S (ix x) w) (FR b, N') := k N' hA
        have h12 := (rcL_ok S (ix x)).1
        have lg := lg_0 (Nat.lt_of_le_of_lt (@wyN_12 b S (ix x) (rcL S (ix x)) 0 (gI S 5 0) h12) p12)
        have e5 : gI N' 5 0 = gI S 5 0 := agr_nI hA rfl
        unfold rctW at k2
        dsimp only
        rw [e5]
        refine brK_d (fun z => ⟨fun y => ?_, fun y => ?_⟩) (fun z => ⟨fun y => ?_, fun y => brK_d (fun z2 => ?_) (fun z2 => ?_)⟩)
        · rw [z, decide_eq_true (lg.2.mp y)] at k2; exact k2
        · rw [z, decide_eq_false (fun e => y (lg.2.mpr e))] at k2; exact k2
        · rw [z, decide_eq_true (lg.1.mp y)] at k2; exact k2
        · rw [z, decide_eq_false (fun e => y (lg.1.mpr e)), z2] at k2
          exact c109 (S := S) (by omega) hK ⟨rfl, k2⟩
        · rw [z, decide_eq_false (fun e => y (lg.1.mpr e)), z2] at k2
          exact c111 (S := S) (by omega) (hI.2.1.1 0 (by decide)) hK ⟨rfl, k2⟩
    · rw [h, h2] at k; exact k S (agr_r S)
  · unfold rctV at k
    refine v248_0 (c183 (by omega) ⟨rfl, brK_b (fun h => ?_) (fun h => brK_d (fun h2 => ?_) (fun h2 => ?_))⟩)
    · rw [h] at k; exact k N hA
    · rw [h, h2] at k
      have hi := rg_tt h
      refine c221 (S := S) (by omega) hI hA hi (by decide) ⟨rfl, ?_⟩
      cases h5 : isRowV S (ix x) 0 with
      | false => rw [h5] at k; exact brK_f (rfV_neg S _) (k N hA)
      | true =>
        rw [h5] at k
        refine brK_t (show (0 : Int32) ≤ 0 by decide) (c243 (S := S) (by omega) hI hi h5 hA (fun N1 hN1 h41 hp => ⟨rfl, c244 (S := S) (by omega) hI (agr_t hA (frw_pC hN1)) h41 hp (fun N2 hN2 hK => ⟨rfl, ?_⟩)⟩))
        have hA2 : agr (pC b) S N2 := agr_t hA (agr_t (frw_pC hN1) (frw_pC hN2))
        have h16 : ix (gI S 5 0) < 16 := hI.2.1.1 0 (by decide)
        have hw := hK.2.2 0 (by omega) (ix (gI S 5 0)) h16
        rw [n_ix, Nat.zero_mul, Nat.zero_add] at hw
        have hw : gL N2 89 (ix (gI S 5 0)) = lN (wyN b S (ix x) (rcL S (ix x)) 0 (gI S 5 0)) := hw
        have k2 : ∀ M', agr (pC b) S M' → f (rctW b S (ix x) w) (FR b, M') := k
        have h12 := (rcL_ok S (ix x)).1
        have lg := lg_0 (Nat.lt_of_le_of_lt (@wyN_12 b S (ix x) (rcL S (ix x)) 0 (gI S 5 0) h12) p12)
        dsimp only
        rw [e68 hI hA2 (by decide), hw]
        unfold rctW at k2
        refine iK_i (by omega) ⟨fun y => ?_, fun y => ?_⟩
        · rw [decide_eq_true (lg.2.mp y)] at k2
          refine v248_58 (brK_d (fun z => brK_t rfl ?_) (fun z => brK_t rfl ?_))
          · rw [z] at k2; exact k2 N2 hA2
          · rw [z] at k2; exact k2 N2 hA2
        · have hne : ¬ wyN b S (ix x) (rcL S (ix x)) 0 (gI S 5 0) = 0 := fun e => y (lg.2.mpr e)
          rw [decide_eq_false hne] at k2
          refine v248_58 (brK_d (fun z => brK_f (by decide) ?_) (fun z => brK_f (by decide) (brK_d (fun z2 => ?_) (fun z2 => ?_))))
          · rw [z] at k2; exact k2 N2 hA2
          · rw [z, z2] at k2
            exact c249 (S := S) (by omega) hI hA2 hK (fun N3 hN3 => ⟨rfl, k2 N3 (agr_t hA2 (frw_pC (frw_s hN3)))⟩)
          · rw [z, z2] at k2
            have h2' := of_decide_eq_true h2
            have w1 := ix_t w
            have hw0 : 0 ≤ w.toInt := by
              have a1 := of_decide_eq_false z
              have a2 := of_decide_eq_false z2
              rw [i_eq, show ((-1 : Int32)).toInt = -1 from rfl] at a1
              rw [i_eq, show ((-2 : Int32)).toInt = -2 from rfl] at a2
              rw [i_le, show ((-2 : Int32)).toInt = -2 from rfl] at h2'
              omega
            rw [hK.1]
            refine ⟨fun z3 => ?_, fun z3 => ?_⟩
            · rw [ix_leI (by rw [ix_n (by omega)]; omega) (by omega), ix_n (by omega)] at z3
              have e : raW b S (ix x) w (rcL S (ix x)) 0 (gI S 5 0) = -2 := raW_o _ _ _ (fun j h1 h3 e => by
                have := (ix_eq (n := j) (by omega)).mp e.symm
                omega)
              have k3 : f (raW b S (ix x) w (rcL S (ix x)) 0 (gI S 5 0)) (FR b, N2) := k2 N2 hA2
              rw [e] at k3
              exact k3
            · rw [ix_leI (by rw [ix_n (by omega)]; omega) (by omega), ix_n (by omega)] at z3
              exact c251 (S := S) (by omega) hI hA2 hK (by omega) hne (fun N3 hN3 => ⟨rfl, k2 N3 (agr_t hA2 (frw_pC (frw_s hN3)))⟩)
    · rw [h, h2] at k; exact k N hA
end RECITE3
