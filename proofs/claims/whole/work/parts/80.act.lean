/-! act, the class's -/
abbrev VN : Type := Int32 × List Int32
def bodN (i : Nat) : Nat := [1, 10, 11, 2, 20, 0, 0, 0, 0, 30, 0, 0, 0, 41, 40, 0, 0, 0, 0, 50, 0, 0, 60, 61, 70, 0, 0, 0, 81, 80, 0, 0].getD i 0
def abN (i : Nat) : Nat := [0, 0, 0, 2, 1, 3, 0, 6].getD i 0
def wk : Nat → Nat → Nat → Nat
  | 0, _, k => k
  | m + 1, a, k => bif Nat.beq (bodN (k * 4 + a)) 0 then wk m a (abN k) else k
def bdC (r : Nat → Nat → Int32 → VN) (own : Nat) (n : Int32) (w up : Nat) (x : Int32) : VN :=
  bif Nat.beq w 1 then (x + n, [1]) else
  bif Nat.beq w 2 then ((r 1 own x).1 - (r 2 own 1).1, 2 :: ((r 1 own x).2 ++ (r 2 own 1).2)) else
  bif Nat.beq w 10 then ((r 0 own x).1 * 2, 10 :: (r 0 own x).2) else
  bif Nat.beq w 11 then (x ^^^ n, [11]) else
  bif Nat.beq w 20 then ((r 0 up x).1 + 3, 20 :: (r 0 up x).2) else
  bif Nat.beq w 30 then (-(r 1 up x).1, 30 :: (r 1 up x).2) else
  bif Nat.beq w 40 then ((r 2 up x).1 * 3, 40 :: (r 2 up x).2) else
  bif Nat.beq w 41 then ((r 1 up (x + 1)).1, 41 :: (r 1 up (x + 1)).2) else
  bif Nat.beq w 50 then ((r 3 up x).1 ^^^ 5, 50 :: (r 3 up x).2) else
  bif Nat.beq w 60 then ((r 2 up x).1 - (r 0 own 2).1, 60 :: ((r 2 up x).2 ++ (r 0 own 2).2)) else
  bif Nat.beq w 61 then ((r 3 up x).1 + 1, 61 :: (r 3 up x).2) else
  bif Nat.beq w 70 then ((r 0 up x).1 * 2, 70 :: (r 0 up x).2) else
  bif Nat.beq w 80 then ((r 1 up x).1 + (r 2 own 2).1, 80 :: ((r 1 up x).2 ++ (r 2 own 2).2)) else
  ((r 0 up x).1 - 1, 81 :: (r 0 up x).2)
def rnC (own : Nat) (n : Int32) : Nat → Nat → Nat → Int32 → VN
  | 0, _, _, _ => (0, [])
  | m + 1, a, fm, x => bdC (rnC own n m) own n (bodN (wk 8 a fm * 4 + a)) (abN (wk 8 a fm)) x
def trC (M : M2) (v : Int32) : M2 := bif Nat.blt (ix (gI M 40 1)) 24 then sI (sI M 42 (ix (gI M 40 1)) v) 40 1 (gI M 40 1 + 1) else sI M 40 1 (gI M 40 1 + 1)
def nsC (M : M2) (l : List Int32) : M2 := l.foldl trC M
theorem nsC_app {M : M2} {l m : List Int32} : nsC M (l ++ m) = nsC (nsC M l) m := List.foldl_append ..
theorem trC_1 (M : M2) (v : Int32) : gI (trC M v) 40 1 = gI M 40 1 + 1 := by
  unfold trC
  cases Nat.blt (ix (gI M 40 1)) 24 <;> exact gI_s ..
theorem nsC_1 : ∀ (l : List Int32) (M : M2) (c : Nat), gI M 40 1 = nI c → gI (nsC M l) 40 1 = nI (c + l.length)
  | [], M, c, h => h
  | v :: l, M, c, h => by
    have := nsC_1 l (trC M v) (c + 1) (by rw [trC_1, h, nI_1])
    show gI (nsC (trC M v) l) 40 1 = nI (c + (l.length + 1))
    rw [this, show c + 1 + l.length = c + (l.length + 1) by omega]
theorem agr_trC {q : Nat → Nat → Bool} {M : M2} {v : Int32} (h1 : q 40 1 = false) (h2 : ∀ j, q 42 j = false) : agr q M (trC M v) := by
  unfold trC
  cases Nat.blt (ix (gI M 40 1)) 24
  · exact agr_sI h1 (agr_r M)
  · exact agr_sI h1 (agr_sI (h2 _) (agr_r M))
theorem agr_nsC {q : Nat → Nat → Bool} (h1 : q 40 1 = false) (h2 : ∀ j, q 42 j = false) : ∀ (l : List Int32) (M : M2), agr q M (nsC M l)
  | [], M => agr_r M
  | v :: l, M => agr_t (agr_trC h1 h2) (agr_nsC h1 h2 l (trC M v))
theorem wk_8 : ∀ m, m ≤ 8 → ∀ a, a < 4 → ∀ k, k < 8 → wk m a k < 8 := by decide +kernel
theorem wk_n : ∀ a, a < 4 → ∀ k, k < 8 → (bodN (wk 8 a k * 4 + a) = 1 ∨ bodN (wk 8 a k * 4 + a) = 2 ∨ bodN (wk 8 a k * 4 + a) = 10 ∨ bodN (wk 8 a k * 4 + a) = 11 ∨ bodN (wk 8 a k * 4 + a) = 20 ∨ bodN (wk 8 a k * 4 + a) = 30 ∨ bodN (wk 8 a k * 4 + a) = 40 ∨ bodN (wk 8 a k * 4 + a) = 41 ∨ bodN (wk 8 a k * 4 + a) = 50 ∨ bodN (wk 8 a k * 4 + a) = 60 ∨ bodN (wk 8 a k * 4 + a) = 61 ∨ bodN (wk 8 a k * 4 + a) = 70 ∨ bodN (wk 8 a k * 4 + a) = 80 ∨ bodN (wk 8 a k * 4 + a) = 81) := by decide +kernel
theorem abN_8 : ∀ k, k < 8 → abN k < 8 := by decide
theorem nst {p : Prop} {A B : Prop} (h : ¬ p) (b : B) : (p → A) ∧ (¬ p → B) := ⟨fun q => absurd q h, fun _ => b⟩
theorem yst {p : Prop} {A B : Prop} (h : p) (a : A) : (p → A) ∧ (¬ p → B) := ⟨fun _ => a, fun q => absurd h q⟩
section ACT
variable {d : Nat} {b : Bool} {M : M2} {n : Int32} {own : Nat}
theorem at1 (hS : StatW M) {k a : Nat} (hk : k < 8) (ha : a < 4) : atV M 1 (nI k * 4 + nI a) = nI (bodN (k * 4 + a)) := by
  have e : (nI k * 4 + nI a : Int32) = nI (k * 4 + a) := by rw [show (4 : Int32) = nI 4 from rfl, nI_mul, nI_add]
  have ei : ix (nI (k * 4 + a)) = k * 4 + a := ix_n (by omega)
  rw [e, atV_t (by rw [ei]; show k * 4 + a < 32; omega), ei]
  exact hS.2.2 _ (by omega)
theorem at2 (hS : StatW M) {k : Nat} (hk : k < 8) : atV M 2 (nI k) = nI (abN k) := by
  have ei : ix (nI k) = k := ix_n (by omega)
  rw [atV_t (by rw [ei]; exact hk), ei]
  exact hS.2.1 _ hk
theorem c164 {g : Mm → Prop} {v : Int32} {c : Nat} (hd : 1 ≤ d) (hc : gI M 40 1 = nI c) (hc2 : c < 1000) (k : g (FR b, trC M v)) : WP d 107 164 0 [.ref 40, .int v] [] 107 (FR b, M) (rV g) := by
  obtain ⟨d, rfl⟩ := ex1 hd
  have ei : ix (nI c) = c := ix_n (by omega)
  have t1 := nI_toInt (n := c) (by omega)
  refine v164_0 ?_
  unfold trC at k
  rw [hc] at k ⊢
  rw [ei] at k ⊢
  refine brK_f (by rw [i_lt, z_toInt]; omega) ⟨fun h => ?_, fun h => iK_i (by rw [ei]; rw [show (24 : Int32) = nI 24 from rfl, nI_leI (by decide) (by omega)] at h; omega) ?_⟩
  · rw [show (24 : Int32) = nI 24 from rfl, nI_leI (by decide) (by omega)] at h
    rw [blt_f.mpr (by omega)] at k
    exact k
  · rw [show (24 : Int32) = nI 24 from rfl, nI_leI (by decide) (by omega)] at h
    rw [blt_i.mpr (by omega)] at k
    exact k
theorem StatW_f {M' : M2} (h : agr (fr [40, 42]) M M') (q : StatW M) : StatW M' := StatW_a (fr_m (fun a ha j => by
  have : a = 40 ∨ a = 42 := by simpa using ha
  rcases this with e | e <;> subst e <;> rfl) h) q
/-- the kind whose body is run -/
theorem w163 {f : Int32 → Mm → Prop} {a : Nat} {x x5 : Int32} {u3 u8 u9 u10 : Value} (hd : 1 ≤ d) (hS : StatW M) (ha : a < 4) : ∀ m i k, i + m = 8 → k < 8 → (∀ u7, WP (d + 1) 107 163 53 [.ref 40, .int n, .int (nI a), u3, .int x, .int x5, .int (nI (wk m a k)), u7, u8, u9, u10] [] 107 (FR b, M) (rI f)) → WP (d + 1) 107 163 15 [.ref 40, .int n, .int (nI a), u3, .int x, .int x5, .int (nI k), .int (nI i), u8, u9, u10] [] 107 (FR b, M) (rI f) := by
  intro m
  induction m with
  | zero =>
    intro i k hi hk q
    have : i = 8 := by omega
    subst this
    exact v163_15 (brK_t (by decide) (q _))
  | succ m ih =>
    intro i k hi hk q
    have hb : bodN (k * 4 + a) < 100 := (show ∀ a, a < 4 → ∀ k, k < 8 → bodN (k * 4 + a) < 100 by decide +kernel) a ha k hk
    refine v163_15 (brK_f (by rw [show (8 : Int32) = nI 8 from rfl, nI_leI (by decide) (by omega)]; omega) (c15 (by omega) (by decide) (Or.inr rfl) ⟨rfl, ?_⟩))
    rw [at1 hS hk ha]
    unfold wk at q
    refine ⟨fun z => c15 (by omega) (by decide) (Or.inr rfl) ⟨rfl, ?_⟩, fun z => ?_⟩
    · have := (ix_eq (n := 0) (by decide)).mp z
      rw [ix_n (by omega)] at this
      rw [beq_t this] at q
      rw [at2 hS hk, nI_1]
      exact ih (i + 1) _ (by omega) (abN_8 k hk) q
    · have : bodN (k * 4 + a) ≠ 0 := fun e => z (by rw [e]; rfl)
      rw [beq_f this] at q
      exact q _
theorem c163 (hn : ix n < 50) (ho : own < 8) : ∀ (m a fm : Nat) (x : Int32) (M : M2) (f : Int32 → Mm → Prop) (d c : Nat), m + 3 ≤ d → m ≤ 40 → a < 4 → fm < 8 → StatW M → gI M 41 (ix n) = nI own → gI M 40 1 = nI c → c + (rnC own n m a fm x).2.length < 900 → f (rnC own n m a fm x).1 (FR b, nsC M (rnC own n m a fm x).2) → WP d 107 163 0 [.ref 40, .int n, .int (nI a), .int (nI fm), .int x, .int (nI (40 - m)), U, U, U, U, U] [] 107 (FR b, M) (rI f) := by
  intro m
  induction m with
  | zero =>
    intro a fm x M f d c hd hm ha hf hS h41 hc hl k
    obtain ⟨d, rfl⟩ := ex1 (e := 2) hd
    exact v163_0 (brK_f (by decide) k)
  | succ m ih =>
    intro a fm x M f d c hd hm ha hf hS h41 hc hl k
    obtain ⟨d, rfl⟩ := ex1 (e := m + 3) hd
    have e39 : 40 - (m + 1) + 1 = 40 - m := by omega
    refine v163_0 (brK_t (by rw [show (40 : Int32) = nI 40 from rfl, nI_ltI (by omega) (by decide)]; omega) ?_)
    refine w163 (by omega) hS ha 8 0 fm rfl hf (fun u7 => ?_)
    have hw := wk_8 8 (by decide) a ha fm hf
    refine v163_53 (c15 (by omega) (by decide) (Or.inr rfl) ⟨rfl, ?_⟩)
    rw [at1 hS hw ha]
    refine c164 (c := c) (by omega) hc (by omega) ⟨rfl, ?_⟩
    have F1 : ∀ v, agr (fr [40, 42]) M (trC M v) := fun v => agr_trC rfl (fun _ => rfl)
    have C1 : ∀ v, gI (trC M v) 40 1 = nI (c + 1) := fun v => by rw [trC_1, hc, nI_1]
    have hS1 : ∀ v, StatW (trC M v) := fun v => StatW_f (F1 v) hS
    have h1 : ∀ v, gI (trC M v) 41 (ix n) = nI own := fun v => (agr_nI (F1 v) rfl).trans h41
    have hw2 := abN_8 _ hw
    refine c15 (by omega) (by decide) (Or.inl rfl) ⟨rfl, c15 (by omega) (by decide) (Or.inr rfl) ⟨rfl, ?_⟩⟩
    rw [at2 (hS1 _) hw, atV_t (show ix n < ln 41 from hn), h1]
    have hk : rnC own n (m + 1) a fm x = bdC (rnC own n m) own n (bodN (wk 8 a fm * 4 + a)) (abN (wk 8 a fm)) x := rfl
    rw [hk] at k hl
    -- the runs below
    have rec1 : ∀ (v : Int32) (a2 fm2 : Nat) (x2 : Int32) (f2 : Int32 → Mm → Prop), a2 < 4 → fm2 < 8 → c + 1 + (rnC own n m a2 fm2 x2).2.length < 900 → f2 (rnC own n m a2 fm2 x2).1 (FR b, nsC (trC M v) (rnC own n m a2 fm2 x2).2) → WP d 107 163 0 [.ref 40, .int n, .int (nI a2), .int (nI fm2), .int x2, .int (nI (40 - (m + 1)) + 1), U, U, U, U, U] [] 107 (FR b, trC M v) (rI f2) := by
      intro v a2 fm2 x2 f2 ha2 hf2 hl2 k2
      rw [nI_1, e39]
      exact ih a2 fm2 x2 (trC M v) f2 d (c + 1) (by omega) (by omega) ha2 hf2 (hS1 v) (h1 v) (C1 v) hl2 k2
    have rec2 : ∀ (v : Int32) (l : List Int32) (a2 fm2 : Nat) (x2 : Int32) (f2 : Int32 → Mm → Prop), a2 < 4 → fm2 < 8 → c + 1 + (l.length + (rnC own n m a2 fm2 x2).2.length) < 900 → f2 (rnC own n m a2 fm2 x2).1 (FR b, nsC (trC M v) (l ++ (rnC own n m a2 fm2 x2).2)) → WP d 107 163 0 [.ref 40, .int n, .int (nI a2), .int (nI fm2), .int x2, .int (nI (40 - (m + 1)) + 1), U, U, U, U, U] [] 107 (FR b, nsC (trC M v) l) (rI f2) := by
      intro v l a2 fm2 x2 f2 ha2 hf2 hl2 k2
      rw [nI_1, e39]
      have F2 : agr (fr [40, 42]) (trC M v) (nsC (trC M v) l) := agr_nsC rfl (fun _ => rfl) l _
      refine ih a2 fm2 x2 (nsC (trC M v) l) f2 d (c + 1 + l.length) (by omega) (by omega) ha2 hf2 (StatW_f F2 (hS1 v)) ((agr_nI F2 rfl).trans (h1 v)) (nsC_1 l _ _ (C1 v)) (by omega) ?_
      rw [← nsC_app]
      exact k2
    rcases wk_n a ha fm hf with e | e | e | e | e | e | e | e | e | e | e | e | e | e <;> rw [e] at k hl ⊢
    · exact yst rfl k
    · have hl : c + ((rnC own n m 1 own x).2 ++ (rnC own n m 2 own 1).2).length + 1 < 900 := hl
      rw [List.length_append] at hl
      exact nst (by decide) (yst rfl (rec1 2 1 own x _ (by decide) ho (by omega) ⟨rfl, rec2 2 _ 2 own 1 _ (by decide) ho (by omega) ⟨rfl, k⟩⟩))
    · have hl : c + ((rnC own n m 0 own x).2).length + 1 < 900 := hl
      exact nst (by decide) (nst (by decide) (yst rfl (rec1 10 0 own x _ (by decide) ho (by omega) ⟨rfl, k⟩)))
    · exact nst (by decide) (nst (by decide) (nst (by decide) (yst rfl k)))
    · have hl : c + ((rnC own n m 0 (abN (wk 8 a fm)) x).2).length + 1 < 900 := hl
      exact nst (by decide) (nst (by decide) (nst (by decide) (nst (by decide) (yst rfl (rec1 20 0 _ x _ (by decide) hw2 (by omega) ⟨rfl, k⟩)))))
    · have hl : c + ((rnC own n m 1 (abN (wk 8 a fm)) x).2).length + 1 < 900 := hl
      exact nst (by decide) (nst (by decide) (nst (by decide) (nst (by decide) (nst (by decide) (yst rfl (rec1 30 1 _ x _ (by decide) hw2 (by omega) ⟨rfl, k⟩))))))
    · have hl : c + ((rnC own n m 2 (abN (wk 8 a fm)) x).2).length + 1 < 900 := hl
      exact nst (by decide) (nst (by decide) (nst (by decide) (nst (by decide) (nst (by decide) (nst (by decide) (yst rfl (rec1 40 2 _ x _ (by decide) hw2 (by omega) ⟨rfl, k⟩)))))))
    · have hl : c + ((rnC own n m 1 (abN (wk 8 a fm)) (x + 1)).2).length + 1 < 900 := hl
      exact nst (by decide) (nst (by decide) (nst (by decide) (nst (by decide) (nst (by decide) (nst (by decide) (nst (by decide) (yst rfl (rec1 41 1 _ (x + 1) _ (by decide) hw2 (by omega) ⟨rfl, k⟩))))))))
    · have hl : c + ((rnC own n m 3 (abN (wk 8 a fm)) x).2).length + 1 < 900 := hl
      exact nst (by decide) (nst (by decide) (nst (by decide) (nst (by decide) (nst (by decide) (nst (by decide) (nst (by decide) (nst (by decide) (yst rfl (rec1 50 3 _ x _ (by decide) hw2 (by omega) ⟨rfl, k⟩)))))))))
    · have hl : c + ((rnC own n m 2 (abN (wk 8 a fm)) x).2 ++ (rnC own n m 0 own 2).2).length + 1 < 900 := hl
      rw [List.length_append] at hl
      exact nst (by decide) (nst (by decide) (nst (by decide) (nst (by decide) (nst (by decide) (nst (by decide) (nst (by decide) (nst (by decide) (nst (by decide) (yst rfl (rec1 60 2 _ x _ (by decide) hw2 (by omega) ⟨rfl, rec2 60 _ 0 own 2 _ (by decide) ho (by omega) ⟨rfl, k⟩⟩))))))))))
    · have hl : c + ((rnC own n m 3 (abN (wk 8 a fm)) x).2).length + 1 < 900 := hl
      exact nst (by decide) (nst (by decide) (nst (by decide) (nst (by decide) (nst (by decide) (nst (by decide) (nst (by decide) (nst (by decide) (nst (by decide) (nst (by decide) (yst rfl (rec1 61 3 _ x _ (by decide) hw2 (by omega) ⟨rfl, k⟩)))))))))))
    · have hl : c + ((rnC own n m 0 (abN (wk 8 a fm)) x).2).length + 1 < 900 := hl
      exact nst (by decide) (nst (by decide) (nst (by decide) (nst (by decide) (nst (by decide) (nst (by decide) (nst (by decide) (nst (by decide) (nst (by decide) (nst (by decide) (nst (by decide) (yst rfl (rec1 70 0 _ x _ (by decide) hw2 (by omega) ⟨rfl, k⟩))))))))))))
    · have hl : c + ((rnC own n m 1 (abN (wk 8 a fm)) x).2 ++ (rnC own n m 2 own 2).2).length + 1 < 900 := hl
      rw [List.length_append] at hl
      exact nst (by decide) (nst (by decide) (nst (by decide) (nst (by decide) (nst (by decide) (nst (by decide) (nst (by decide) (nst (by decide) (nst (by decide) (nst (by decide) (nst (by decide) (nst (by decide) (yst rfl (rec1 80 1 _ x _ (by decide) hw2 (by omega) ⟨rfl, rec2 80 _ 2 own 2 _ (by decide) ho (by omega) ⟨rfl, k⟩⟩)))))))))))))
    · have hl : c + ((rnC own n m 0 (abN (wk 8 a fm)) x).2).length + 1 < 900 := hl
      exact nst (by decide) (nst (by decide) (nst (by decide) (nst (by decide) (nst (by decide) (nst (by decide) (nst (by decide) (nst (by decide) (nst (by decide) (nst (by decide) (nst (by decide) (nst (by decide) (nst (by decide) (rec1 81 0 _ x _ (by decide) hw2 (by omega) ⟨rfl, k⟩)))))))))))))
end ACT
