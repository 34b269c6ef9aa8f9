/-! ORDERS -/
def dg (p j : Nat) : Nat := p / 8 ^ j % 8
theorem dg_8 (p j : Nat) : dg p j < 8 := Nat.mod_lt _ (by decide)
theorem dg_lo {p k s j : Nat} (h : j < k) : dg (p + s * 8 ^ k) j = dg p j := by
  unfold dg
  obtain ⟨e, rfl⟩ : ∃ e, k = j + (e + 1) := ⟨k - j - 1, by omega⟩
  have : s * 8 ^ (j + (e + 1)) = 8 ^ j * (8 * (s * 8 ^ e)) := by
    rw [Nat.pow_add, Nat.pow_succ]
    rw [Nat.mul_left_comm, Nat.mul_comm (8 ^ e) 8, Nat.mul_left_comm s 8]
  rw [this, Nat.add_mul_div_left _ _ (Nat.pow_pos (by decide)), Nat.add_mul_mod_self_left]
theorem dg_at {p k s : Nat} (h : p < 8 ^ k) (hs : s < 8) : dg (p + s * 8 ^ k) k = s := by
  unfold dg
  rw [Nat.add_mul_div_right _ _ (Nat.pow_pos (by decide)), Nat.div_eq_of_lt h, Nat.zero_add, Nat.mod_eq_of_lt hs]
theorem dg_lt {p k s : Nat} (h : p < 8 ^ k) (hs : s < 8) : p + s * 8 ^ k < 8 ^ (k + 1) := by
  rw [Nat.pow_succ]
  have : s * 8 ^ k ≤ 7 * 8 ^ k := Nat.mul_le_mul_right _ (by omega)
  omega
def catN (f : Nat → List Nat) : Nat → Nat → List Nat
  | 0, _ => []
  | n + 1, s => f s ++ catN f n (s + 1)
def goO (c : Nat) : Nat → Nat → Nat → Nat → List Nat
  | 0, _, _, p => [p]
  | m + 1, k, u, p => catN (fun s => bif Nat.testBit u s then [] else goO c m (k + 1) (u ||| 2 ^ s) (p + s * 8 ^ k)) c 0
def ords (c : Nat) : List Nat := goO c c 0 0 0
def fI (o : Nat → Nat) : Nat → Nat
  | 0 => 0
  | m + 1 => bif Nat.blt (o (m + 1)) (o m) then fI o m else m + 1
def fJ (o : Nat → Nat) (i : Nat) : Nat → Nat
  | 0 => 0
  | j + 1 => bif Nat.ble (j + 1) i then j + 1 else bif Nat.ble (o i) (o (j + 1)) then j + 1 else fJ o i j
def swf (o : Nat → Nat) (a c : Nat) : Nat → Nat := fun k => bif Nat.beq k c then o a else bif Nat.beq k a then o c else o k
def rvf (c i : Nat) : Nat → Nat → (Nat → Nat) → Nat → Nat
  | 0, _, o => o
  | m + 1, a, o => bif Nat.ble (c + i - a) a then o else rvf c i m (a + 1) (swf o a (c + i - a))
def nxF (c : Nat) (o : Nat → Nat) (i : Nat) : Nat → Nat := rvf c i 6 (i + 1) (swf o i (fJ o i (c - 1)))
def chk1 (c p q : Nat) : Bool := Nat.blt 0 (fI (dg p) (c - 1)) && allB c (fun k => Nat.beq (nxF c (dg p) (fI (dg p) (c - 1) - 1) k) (dg q k))
def okD (c p : Nat) : Bool := allB c (fun k => Nat.blt (dg p k) c)
def chn (c : Nat) : List Nat → Bool
  | [] => false
  | p :: t => okD c p && (match t with
    | [] => Nat.beq (fI (dg p) (c - 1)) 0
    | q :: _ => chk1 c p q) && (match t with
    | [] => true
    | _ :: _ => chn c t)
theorem ords_chn : ∀ c, c < 7 → chn c (ords c) = true ∧ (ords c).length ≤ 720 := by decide +kernel
theorem ords_fst : ∀ c, c < 7 → (match ords c with | [] => false | p :: _ => allB c (fun k => Nat.beq (dg p k) k)) = true := by decide +kernel
theorem fI_le (o : Nat → Nat) : ∀ m, fI o m ≤ m
  | 0 => Nat.le_refl _
  | m + 1 => by
    have := fI_le o m
    unfold fI
    cases Nat.blt (o (m + 1)) (o m)
    · exact Nat.le_refl _
    · exact Nat.le_succ_of_le this
theorem fJ_le (o : Nat → Nat) (i : Nat) : ∀ m, fJ o i m ≤ m
  | 0 => Nat.le_refl _
  | m + 1 => by
    have := fJ_le o i m
    unfold fJ
    cases Nat.ble (m + 1) i
    · cases Nat.ble (o i) (o (m + 1))
      · exact Nat.le_succ_of_le this
      · exact Nat.le_refl _
    · exact Nat.le_refl _
/-- digits in a cell -/
def OrK (M : M2) (r c : Nat) (o : Nat → Nat) : Prop := ∀ k, k < c → gI M r k = nI (o k)
abbrev BT : Type := Int32 × Nat
def pnK (wt : Nat → Int32) (lo : Int32) (p k : Nat) : Int32 := sm (fun j => bif decide (lo < nI j) then 0 else wt (dg p j)) k
def upO (wt : Nat → Int32) (lo : Int32) (c : Nat) (st : BT) (p : Nat) : BT := bif decide (pnK wt lo p c ≤ st.1) then st else (pnK wt lo p c, p)
def fdO (wt : Nat → Int32) (lo : Int32) (c : Nat) (st : BT) (l : List Nat) : BT := l.foldl (upO wt lo c) st
def BS (M : M2) (r c : Nat) (st : BT) : Prop := st.1 = -1 ∨ OrK M r c (dg st.2)
theorem pnK_lo {wt : Nat → Int32} {lo : Int32} {p k c : Nat} (hk : k ≤ c) (hc : c ≤ 6) (h : lo < nI k) : pnK wt lo p c = pnK wt lo p k := by
  obtain ⟨e, rfl⟩ : ∃ e, c = k + e := ⟨c - k, by omega⟩
  induction e with
  | zero => rfl
  | succ e ih =>
    have := ih (by omega) (by omega)
    show sm _ (k + e) + (bif decide (lo < nI (k + e)) then 0 else wt (dg p (k + e))) = _
    have h1 := nI_toInt (n := k) (by omega)
    have h2 := nI_toInt (n := k + e) (by omega)
    rw [decide_eq_true (show lo < nI (k + e) by rw [i_lt] at h ⊢; omega)]
    show pnK wt lo p (k + e) + 0 = _
    rw [this, Int32.add_zero]
theorem pnK_nn {wt : Nat → Int32} {lo : Int32} {p : Nat} : ∀ c, (∀ k, k < c → ix (wt (dg p k)) < 20000) → c ≤ 6 → ix (pnK wt lo p c) ≤ 20000 * c
  | 0, _, _ => by show ix 0 ≤ _; exact Nat.zero_le _
  | c + 1, h, h6 => by
    have ih := pnK_nn (lo := lo) (p := p) c (fun k hk => h k (by omega)) (by omega)
    show ix (pnK wt lo p c + (bif decide (lo < nI c) then 0 else wt (dg p c))) ≤ _
    have hw := h c (by omega)
    have : ix (bif decide (lo < nI c) then 0 else wt (dg p c)) < 20000 := by
      cases decide (lo < nI c)
      · exact hw
      · show ix 0 < 20000; decide
    generalize (bif decide (lo < nI c) then 0 else wt (dg p c)) = z at this ⊢
    rw [ix_add (by omega)]
    omega
theorem okD_i {c p : Nat} (h : okD c p = true) {k : Nat} (hk : k < c) : dg p k < c := blt_i.mp (allB_i c h k hk)
theorem chn_ok {c : Nat} : ∀ l, chn c l = true → ∀ p, p ∈ l → okD c p = true
  | [], h, _, _ => by unfold chn at h; exact absurd h (by decide)
  | p :: t, h, q, hq => by
    unfold chn at h
    rw [Bool.and_eq_true, Bool.and_eq_true] at h
    rcases List.mem_cons.mp hq with e | e
    · rw [e]; exact h.1.1
    · cases t with
      | nil => exact absurd e (by simp)
      | cons a t => exact chn_ok (a :: t) h.2 q e
/-- once there is a most, it stays one -/
theorem fdO_nn {wt : Nat → Int32} {lo : Int32} {c : Nat} (hc : c ≤ 6) (hw : ∀ s, s < c → ix (wt s) < 20000) : ∀ (l : List Nat) (st : BT), (∀ p, p ∈ l → okD c p = true) → ix st.1 < 200000 → ix (fdO wt lo c st l).1 < 200000
  | [], _, _, h => h
  | p :: t, st, ho, h => by
    show ix (fdO wt lo c (upO wt lo c st p) t).1 < 200000
    refine fdO_nn hc hw t _ (fun q hq => ho q (List.mem_cons_of_mem _ hq)) ?_
    unfold upO
    cases decide (pnK wt lo p c ≤ st.1)
    · have := pnK_nn (lo := lo) (p := p) c (fun k hk => hw _ (okD_i (ho p (List.mem_cons_self ..)) hk)) hc
      show ix (pnK wt lo p c) < 200000
      omega
    · exact h
theorem fdO_1 {wt : Nat → Int32} {lo : Int32} {c g : Nat} {p : Nat} {t : List Nat} (hc : c ≤ 6) (hw : ∀ s, s < c → ix (wt s) < 20000) (ho : ∀ q, q ∈ p :: t → okD c q = true) : ix (fdO wt lo c (-1, g) (p :: t)).1 < 200000 := by
  show ix (fdO wt lo c (upO wt lo c (-1, g) p) t).1 < 200000
  have := pnK_nn (lo := lo) (p := p) c (fun k hk => hw _ (okD_i (ho p (List.mem_cons_self ..)) hk)) hc
  have t1 := ix_t (pnK wt lo p c)
  refine fdO_nn hc hw t _ (fun q hq => ho q (List.mem_cons_of_mem _ hq)) ?_
  unfold upO
  rw [decide_eq_false (show ¬ pnK wt lo p c ≤ (-1 : Int32) by rw [i_le, show ((-1 : Int32)).toInt = -1 from rfl]; omega)]
  show ix (pnK wt lo p c) < 200000
  omega
/-- from which order it began does not matter -/
theorem fdO_g {wt : Nat → Int32} {lo : Int32} {c g g' : Nat} {p : Nat} {t : List Nat} (hc : c ≤ 6) (hw : ∀ s, s < c → ix (wt s) < 20000) (ho : ∀ q, q ∈ p :: t → okD c q = true) : fdO wt lo c (-1, g) (p :: t) = fdO wt lo c (-1, g') (p :: t) := by
  show fdO wt lo c (upO wt lo c (-1, g) p) t = fdO wt lo c (upO wt lo c (-1, g') p) t
  have := pnK_nn (lo := lo) (p := p) c (fun k hk => hw _ (okD_i (ho p (List.mem_cons_self ..)) hk)) hc
  have t1 := ix_t (pnK wt lo p c)
  congr 1
  unfold upO
  rw [decide_eq_false (show ¬ pnK wt lo p c ≤ (-1 : Int32) by rw [i_le, show ((-1 : Int32)).toInt = -1 from rfl]; omega)]
  rfl
theorem agr_cI {p : Nat → Nat → Bool} {M M' : M2} {s sp t dp n : Nat} (hp : ∀ j, p t j = false) (h : agr p M M') : agr p M (cI M' s sp t dp n) := by
  intro a j q
  have e : ¬ (a = t ∧ dp ≤ j ∧ j < dp + n) := by
    intro e
    rw [e.1, hp] at q
    exact absurd q (by decide)
  refine ⟨?_, (h a j q).2⟩
  show (if a = t ∧ dp ≤ j ∧ j < dp + n then _ else _) = _
  rw [if_neg e]
  exact (h a j q).1
theorem cI_at {M : M2} {s t n j : Nat} (hj : j < n) : gI (cI M s 0 t 0 n) t j = gI M s j := by
  show (if t = t ∧ 0 ≤ j ∧ j < 0 + n then M.1 s (0 + (j - 0)) else _) = M.1 s j
  rw [if_pos ⟨rfl, Nat.zero_le _, by omega⟩, Nat.zero_add]
  rfl
theorem cI_o {M : M2} {s sp t dp n r : Nat} (h : r ≠ t) (j : Nat) : gI (cI M s sp t dp n) r j = gI M r j := by
  show (if r = t ∧ _ then _ else M.1 r j) = M.1 r j
  rw [if_neg (fun e => h e.1)]
section ORDERS
variable {d : Nat} {b : Bool}
theorem c126 {g : Mm → Prop} {i j : Nat} {N : M2} (hd : 1 ≤ d) (hi : i < 6) (hj : j < 6) (k : g (FR b, sI (sI N 24 i (gI N 24 j)) 24 j (gI N 24 i))) : WP d 107 126 0 [.ref 18, .int (nI i), .int (nI j), U] [] 107 (FR b, N) (rV g) := by
  obtain ⟨d, rfl⟩ := ex1 hd
  have i1 := nI_toInt (n := i) (by omega)
  have j1 := nI_toInt (n := j) (by omega)
  have e1 : ix (nI i) = i := ix_n (by omega)
  have e2 : ix (nI j) = j := ix_n (by omega)
  refine v126_0 (brK_f (by rw [i_lt, z_toInt]; omega) (brK_f (by rw [show (6 : Int32) = nI 6 from rfl, nI_leI (by decide) (by omega)]; omega) (brK_f (by rw [i_lt, z_toInt]; omega) (brK_f (by rw [show (6 : Int32) = nI 6 from rfl, nI_leI (by decide) (by omega)]; omega) (iK_i (by omega) (iK_i (by omega) (iK_i (by omega) (iK_i (by omega) ?_))))))))
  rw [e1, e2]
  exact k
theorem OrK_sw {N : M2} {c i j : Nat} {o : Nat → Nat} (h : OrK N 24 c o) (hi : i < c) (hj : j < c) : OrK (sI (sI N 24 i (gI N 24 j)) 24 j (gI N 24 i)) 24 c (swf o i j) := by
  intro k hk
  unfold swf
  by_cases e : k = j
  · subst e
    rw [gI_s, beq_t rfl]
    exact h i hi
  · rw [gI_oj e, beq_f e]
    by_cases e2 : k = i
    · subst e2
      rw [gI_s, beq_t rfl]
      exact h j hj
    · rw [gI_oj e2, beq_f e2]
      exact h k hk
theorem fr24 {q : Nat → Nat → Bool} {N : M2} {i j : Nat} (hq : ∀ k, q 24 k = false) : agr q N (sI (sI N 24 i (gI N 24 j)) 24 j (gI N 24 i)) := agr_sI (hq _) (agr_sI (hq _) (agr_r N))
theorem at24 {N : M2} {c : Nat} {o : Nat → Nat} (hc : c ≤ 6) (h : OrK N 24 c o) {k : Nat} (hk : k < c) : atV N 24 (nI k) = nI (o k) := by
  have e : ix (nI k) = k := ix_n (by omega)
  rw [atV_t (by rw [e]; show k < 6; omega), e]
  exact h k hk
theorem c125 {f : Int32 → Mm → Prop} {c : Nat} {o : Nat → Nat} {N : M2} (hd : 3 ≤ d) (hc : c ≤ 6) (h18 : gI N 18 0 = nI c) (ho : OrK N 24 c o) (ho8 : ∀ k, k < c → o k < 8) (h0 : fI o (c - 1) = 0 → f 0 (FR b, N)) (h1 : fI o (c - 1) ≠ 0 → ∀ N', agr (fr [24]) N N' → OrK N' 24 c (nxF c o (fI o (c - 1) - 1)) → f 1 (FR b, N')) : WP d 107 125 0 [.ref 18, U, U, U] [] 107 (FR b, N) (rI f) := by
  obtain ⟨d, rfl⟩ := ex1 (e := 2) hd
  have q24 : ∀ k, fr [24] 24 k = false := fun _ => rfl
  have q18 : fr [24] 18 0 = true := rfl
  have rv : ∀ m a (N1 : M2) (o1 : Nat → Nat) (i : Nat) (u2 : Value), a + m = i + 7 → i + 1 ≤ a → 2 * a ≤ c + i + 2 → i + 2 ≤ c → (∀ N', agr (fr [24]) N N' → OrK N' 24 c (rvf c i m a o1) → f 1 (FR b, N')) → agr (fr [24]) N N1 → OrK N1 24 c o1 → WP (d + 1) 107 125 91 [.ref 18, .int (nI i), u2, .int (nI a)] [] 107 (FR b, N1) (rI f) := by
    intro m
    induction m with
    | zero => intro a N1 o1 i u2 h2 h3 h4 h5; omega
    | succ m ih =>
      intro a N1 o1 i u2 h2 h3 h4 h5 q hN h6
      refine v125_91 ?_
      rw [agr_nI hN q18, h18, nI_add, nI_sub (by omega)]
      unfold rvf at q
      refine ⟨fun z => ?_, fun z => ?_⟩
      · rw [nI_leI (by omega) (by omega)] at z
        rw [Nat.ble_eq_true_of_le z] at q
        exact q N1 hN h6
      · rw [nI_leI (by omega) (by omega)] at z
        rw [show Nat.ble (c + i - a) a = false from by
          cases hb : Nat.ble (c + i - a) a with
          | false => rfl
          | true => exact absurd (Nat.le_of_ble_eq_true hb) z] at q
        refine c126 (by omega) (by omega) (by omega) ⟨rfl, ?_⟩
        rw [nI_1]
        exact ih (a + 1) _ _ i _ (by omega) (by omega) (by omega) h5 q (agr_t hN (fr24 q24)) (OrK_sw h6 (by omega) (by omega))
  have sc : ∀ i j (u3 : Value), i + 2 ≤ c → j < c → i ≤ j → (∀ N', agr (fr [24]) N N' → OrK N' 24 c (rvf c i 6 (i + 1) (swf o i (fJ o i j))) → f 1 (FR b, N')) → WP (d + 1) 107 125 51 [.ref 18, .int (nI i), .int (nI j), u3] [] 107 (FR b, N) (rI f) := by
    intro i j
    induction j with
    | zero =>
      intro u3 h2 h3 h4 q
      refine v125_51 (brK_t (by rw [nI_leI (by omega) (by omega)]; omega) (c126 (by omega) (by omega) (by omega) ⟨rfl, ?_⟩))
      rw [nI_1]
      exact rv 6 (i + 1) _ _ i _ (by omega) (by omega) (by omega) h2 q (fr24 q24) (OrK_sw ho (by omega) (by omega))
    | succ j ih =>
      intro u3 h2 h3 h4 q
      have fin : (∀ N', agr (fr [24]) N N' → OrK N' 24 c (rvf c i 6 (i + 1) (swf o i (j + 1))) → f 1 (FR b, N')) → WP d 107 126 0 [.ref 18, .int (nI i), .int (nI (j + 1)), U] [] 107 (FR b, N) (rV (fun N6 => N6.1 = FR b ∧ (WP (d + 1) 107 125 91 [.ref 18, .int (nI i), .int (nI (j + 1)), .int (nI i + 1)] [] 107 (FR b, N6.2) (rI f)))) := by
        intro q
        refine c126 (by omega) (by omega) (by omega) ⟨rfl, ?_⟩
        rw [nI_1]
        exact rv 6 (i + 1) _ _ i _ (by omega) (by omega) (by omega) h2 q (fr24 q24) (OrK_sw ho (by omega) (by omega))
      unfold fJ at q
      refine v125_51 ⟨fun z => ?_, fun z => c15 (by omega) (by decide) (Or.inl rfl) ⟨rfl, c15 (by omega) (by decide) (Or.inl rfl) ⟨rfl, ?_⟩⟩⟩
      · rw [nI_leI (by omega) (by omega)] at z
        rw [Nat.ble_eq_true_of_le z] at q
        exact fin q
      · rw [nI_leI (by omega) (by omega)] at z
        rw [show Nat.ble (j + 1) i = false from by
          cases hb : Nat.ble (j + 1) i with
          | false => rfl
          | true => exact absurd (Nat.le_of_ble_eq_true hb) z] at q
        have b1 := ho8 i (by omega)
        have b2 := ho8 (j + 1) h3
        dsimp only
        rw [at24 hc ho (show i < c by omega), at24 hc ho h3]
        refine ⟨fun y => ?_, fun y => ?_⟩
        · rw [nI_leI (by omega) (by omega)] at y
          rw [Nat.ble_eq_true_of_le y] at q
          exact fin q
        · rw [nI_leI (by omega) (by omega)] at y
          rw [show Nat.ble (o i) (o (j + 1)) = false from by
            cases hb : Nat.ble (o i) (o (j + 1)) with
            | false => rfl
            | true => exact absurd (Nat.le_of_ble_eq_true hb) y] at q
          rw [nI_pred']
          exact ih _ h2 (by omega) (by omega) q
  have fi : ∀ m (u2 u3 : Value), m + 1 ≤ c → (fI o m = 0 → f 0 (FR b, N)) → (fI o m ≠ 0 → ∀ N', agr (fr [24]) N N' → OrK N' 24 c (nxF c o (fI o m - 1)) → f 1 (FR b, N')) → WP (d + 1) 107 125 7 [.ref 18, .int (nI m - 1), u2, u3] [] 107 (FR b, N) (rI f) := by
    intro m
    induction m with
    | zero =>
      intro u2 u3 hm q0 q1
      exact v125_7 (brK_t (by decide) (brK_f (by decide) (q0 rfl)))
    | succ m ih =>
      intro u2 u3 hm q0 q1
      have e : nI (m + 1) - 1 = nI m := by rw [← nI_1, Int32.add_sub_cancel]
      have m1 := nI_toInt (n := m) (by omega)
      have b1 := ho8 m (by omega)
      have b2 := ho8 (m + 1) (by omega)
      refine v125_7 ?_
      rw [e]
      refine brK_f (by rw [i_lt, z_toInt]; omega) (c15 (by omega) (by decide) (Or.inl rfl) ⟨rfl, c15 (by omega) (by decide) (Or.inl rfl) ⟨rfl, ?_⟩⟩)
      dsimp only
      rw [nI_1, at24 hc ho (show m < c by omega), at24 hc ho (show m + 1 < c by omega)]
      unfold fI at q0 q1
      refine ⟨fun y => ?_, fun y => ?_⟩
      · rw [nI_leI (by omega) (by omega)] at y
        rw [blt_f.mpr (show ¬ o (m + 1) < o m by omega)] at q1
        have q1 := q1 (show m + 1 ≠ 0 by omega)
        refine brK_t (by rw [i_le, z_toInt]; omega) ?_
        rw [h18]
        have ec : nI c - 1 = nI (c - 1) := by rw [← nI_sub (a := c) (b := 1) (by omega)]; rfl
        rw [ec]
        exact sc m (c - 1) _ (by omega) (by omega) (by omega) q1
      · rw [nI_leI (by omega) (by omega)] at y
        rw [blt_i.mpr (show o (m + 1) < o m by omega)] at q0 q1
        rw [show nI m + (-1) = nI m - 1 from (Int32.sub_eq_add_neg ..).symm]
        exact ih _ _ (by omega) q0 q1
  refine v125_0 ?_
  rw [h18]
  by_cases hc0 : c = 0
  · subst hc0
    exact v125_7 (brK_t (by decide) (brK_f (by decide) (h0 rfl)))
  · have ec : nI c - 2 = nI (c - 1) - 1 := by
      obtain ⟨e, rfl⟩ : ∃ e, c = e + 1 := ⟨c - 1, by omega⟩
      rw [show e + 1 - 1 = e from rfl, ← nI_1]
      apply ix_inj
      have : e = 0 ∨ e = 1 ∨ e = 2 ∨ e = 3 ∨ e = 4 ∨ e = 5 := by omega
      rcases this with h | h | h | h | h | h <;> subst h <;> rfl
    rw [ec]
    exact fi (c - 1) _ _ (by omega) h0 h1
end ORDERS
