/-! act, the reference's -/
def sayF (o : Nat) (n x : Int32) : VN := bif und 8 o 1 then (x + n + 3, [20, 1]) else bif Nat.beq o 7 then ((x + n) * 2 - 1, [81, 70, 1]) else bif Nat.beq o 6 then ((x + n) * 2, [70, 1]) else (x + n, [1])
def selF (o : Nat) (n x : Int32) : VN := bif Nat.beq o 5 then ((x ^^^ n) * 3 - (sayF o n 2).1, 60 :: 40 :: 11 :: (sayF o n 2).2) else bif Nat.beq o 3 then ((x ^^^ n) * 3, [40, 11]) else (x ^^^ n, [11])
def falF (o : Nat) (n x : Int32) : VN := bif und 8 o 3 then (-((sayF o n (x + 1)).1 * 2), 41 :: 30 :: 10 :: (sayF o n (x + 1)).2) else bif Nat.beq o 7 then ((sayF o n x).1 * 2 + (selF o n 2).1, 80 :: 10 :: ((sayF o n x).2 ++ (selF o n 2).2)) else bif Nat.beq o 2 then (-((sayF o n x).1 * 2), 30 :: 10 :: (sayF o n x).2) else ((sayF o n x).1 * 2, 10 :: (sayF o n x).2)
def tlF (o : Nat) (n x : Int32) : VN := ((falF o n x).1 - (selF o n 1).1, 2 :: ((falF o n x).2 ++ (selF o n 1).2))
def telF (o : Nat) (n x : Int32) : VN := bif Nat.beq o 4 then ((tlF o n x).1 ^^^ 5, 50 :: (tlF o n x).2) else bif Nat.beq o 5 then ((tlF o n x).1 + 1, 61 :: (tlF o n x).2) else tlF o n x
def actF (a o : Nat) (n x : Int32) : VN := bif Nat.beq a 0 then sayF o n x else bif Nat.beq a 1 then falF o n x else bif Nat.beq a 2 then selF o n x else telF o n x
theorem act_eq {o : Nat} (ho : o < 8) {a : Nat} (ha : a < 4) {n x : Int32} : rnC o n 40 a o x = actF a o n x ∧ (actF a o n x).2.length ≤ 20 := by
  have : a = 0 ∨ a = 1 ∨ a = 2 ∨ a = 3 := by omega
  rcases lt8 ho with h | h | h | h | h | h | h | h <;> subst h <;> rcases this with h | h | h | h <;> subst h <;> exact ⟨rfl, Nat.le_of_ble_eq_true rfl⟩
theorem say_len {o : Nat} (ho : o < 8) {n x : Int32} : (sayF o n x).2.length ≤ 3 := by
  rcases lt8 ho with h | h | h | h | h | h | h | h <;> subst h <;> exact Nat.le_of_ble_eq_true rfl
theorem fal_len {o : Nat} (ho : o < 8) {n x : Int32} : (falF o n x).2.length ≤ 10 := by
  rcases lt8 ho with h | h | h | h | h | h | h | h <;> subst h <;> exact Nat.le_of_ble_eq_true rfl
def trM (N : M2) (v : Int32) : M2 := bif Nat.blt (ix (gI N 67 59)) 24 then sI (sI N 102 (ix (gI N 67 59)) v) 67 59 (gI N 67 59 + 1) else sI N 67 59 (gI N 67 59 + 1)
def nsM (N : M2) (l : List Int32) : M2 := l.foldl trM N
theorem nsM_app {N : M2} {l m : List Int32} : nsM N (l ++ m) = nsM (nsM N l) m := List.foldl_append ..
theorem trM_1 (M : M2) (v : Int32) : gI (trM M v) 67 59 = gI M 67 59 + 1 := by
  unfold trM
  cases Nat.blt (ix (gI M 67 59)) 24 <;> exact gI_s ..
theorem agr_trM {q : Nat → Nat → Bool} {M : M2} {v : Int32} (h1 : q 67 59 = false) (h2 : ∀ j, q 102 j = false) : agr q M (trM M v) := by
  unfold trM
  cases Nat.blt (ix (gI M 67 59)) 24
  · exact agr_sI h1 (agr_r M)
  · exact agr_sI h1 (agr_sI (h2 _) (agr_r M))
theorem agr_nsM {q : Nat → Nat → Bool} (h1 : q 67 59 = false) (h2 : ∀ j, q 102 j = false) : ∀ (l : List Int32) (M : M2), agr q M (nsM M l)
  | [], M => agr_r M
  | v :: l, M => agr_t (agr_trM h1 h2) (agr_nsM h1 h2 l (trM M v))
/-- both notes go on alike -/
def RT (M N : M2) (c : Nat) : Prop := gI M 40 1 = nI c ∧ gI N 67 59 = nI c ∧ ∀ j, j < 24 → gI N 102 j = gI M 42 j
theorem RT_t {M N : M2} {c : Nat} {v : Int32} (h : RT M N c) (hc : c < 1000) : RT (trC M v) (trM N v) (c + 1) := by
  refine ⟨by rw [trC_1, h.1, nI_1], by rw [trM_1, h.2.1, nI_1], fun j hj => ?_⟩
  have ec : ix (nI c) = c := ix_n (by omega)
  unfold trC trM
  rw [h.1, h.2.1, ec]
  cases Nat.blt c 24 with
  | false =>
    show gI (sI N 67 59 _) 102 j = gI (sI M 40 1 _) 42 j
    rw [gI_or (by decide), gI_or (by decide)]
    exact h.2.2 j hj
  | true =>
    show gI (sI (sI N 102 c v) 67 59 _) 102 j = gI (sI (sI M 42 c v) 40 1 _) 42 j
    rw [gI_or (a := 102) (r := 67) (by decide), gI_or (a := 42) (r := 40) (by decide)]
    by_cases e : j = c
    · subst e; rw [gI_s, gI_s]
    · rw [gI_oj e, gI_oj e]; exact h.2.2 j hj
theorem RT_s : ∀ (l : List Int32) (M N : M2) (c : Nat), RT M N c → c + l.length < 1000 → RT (nsC M l) (nsM N l) (c + l.length)
  | [], _, _, _, h, _ => h
  | v :: l, M, N, c, h, hl => by
    have hl : c + (l.length + 1) < 1000 := hl
    have := RT_s l (trC M v) (trM N v) (c + 1) (RT_t h (by omega)) (by omega)
    rw [show c + 1 + l.length = c + (l.length + 1) by omega] at this
    exact this
def RKn (N : M2) (n : Int32) (o c : Nat) : Prop := gI N 101 (ix n) = nI o ∧ gI N 67 59 = nI c
theorem RKn_t {N : M2} {n v : Int32} {o c : Nat} (h : RKn N n o c) : RKn (trM N v) n o (c + 1) := ⟨(agr_nI (p := fr [67, 102]) (agr_trM rfl (fun _ => rfl)) rfl).trans h.1, by rw [trM_1, h.2, nI_1]⟩
theorem RKn_s {n : Int32} {o : Nat} : ∀ (l : List Int32) (N : M2) (c : Nat), RKn N n o c → RKn (nsM N l) n o (c + l.length)
  | [], _, _, h => h
  | v :: l, N, c, h => by
    have := RKn_s l (trM N v) (c + 1) (RKn_t h)
    rw [show c + 1 + l.length = c + (l.length + 1) by omega] at this
    exact this
theorem brK_k {o j : Nat} {A B : Prop} (ho : o < 8) (hj : j < 8) (h1 : Nat.beq o j = true → A) (h2 : Nat.beq o j = false → B) : brK (nI o = nI j) A B := by
  refine ⟨fun z => h1 (beq_t ?_), fun z => h2 (beq_f (fun e => z (by rw [e])))⟩
  have := congrArg ix z
  rw [ix_n (by omega), ix_n (by omega)] at this
  exact this
section ACT2
variable {d : Nat} {b : Bool} {n x : Int32} {o c : Nat} {N : M2} {f : Int32 → Mm → Prop}
theorem c284 {g : Mm → Prop} {v : Int32} (hd : 1 ≤ d) (hR : RKn N n o c) (hc : c < 1000) (k : g (FR b, trM N v)) : WP d 107 284 0 [.ref 67, .int v] [] 107 (FR b, N) (rV g) := by
  obtain ⟨d, rfl⟩ := ex1 hd
  have ec : ix (nI c) = c := ix_n (by omega)
  refine v284_0 ?_
  unfold trM at k
  rw [hR.2] at k ⊢
  rw [ec] at k ⊢
  refine ⟨fun h => ?_, fun h => iK_i (by rw [ec]; rw [show (24 : Int32) = nI 24 from rfl, nI_leI (by decide) (by omega)] at h; omega) ?_⟩
  · rw [show (24 : Int32) = nI 24 from rfl, nI_leI (by decide) (by omega)] at h
    rw [blt_f.mpr (by omega)] at k
    exact k
  · rw [show (24 : Int32) = nI 24 from rfl, nI_leI (by decide) (by omega)] at h
    rw [blt_i.mpr (by omega)] at k
    exact k
theorem c285 (hd : 2 ≤ d) (hR : RKn N n o c) (hc : c < 1000) (k : f (x + n) (FR b, nsM N [1])) : WP d 107 285 0 [.ref 67, .int n, .int x] [] 107 (FR b, N) (rI f) := by
  obtain ⟨d, rfl⟩ := ex1 (e := 1) hd
  exact v285_0 (c284 (by omega) hR hc ⟨rfl, k⟩)
theorem c286 (hd : 3 ≤ d) (hR : RKn N n o c) (hc : c < 990) (k : f ((x + n) * 2) (FR b, nsM N [70, 1])) : WP d 107 286 0 [.ref 67, .int n, .int x] [] 107 (FR b, N) (rI f) := by
  obtain ⟨d, rfl⟩ := ex1 (e := 2) hd
  exact v286_0 (c284 (by omega) hR (by omega) ⟨rfl, c285 (by omega) (RKn_t hR) (by omega) ⟨rfl, k⟩⟩)
theorem c282 (hd : 4 ≤ d) (hn : ix n < 50) (ho : o < 8) (hR : RKn N n o c) (hc : c < 980) (k : f (sayF o n x).1 (FR b, nsM N (sayF o n x).2)) : WP d 107 282 0 [.ref 67, .int n, .int x] [] 107 (FR b, N) (rI f) := by
  obtain ⟨d, rfl⟩ := ex1 (e := 3) hd
  have eo : ix (nI o) = o := ix_n (by omega)
  unfold sayF at k
  refine v282_0 (iK_i hn ?_)
  rw [hR.1]
  refine c283 (by omega) (by omega) (by decide) ⟨rfl, ?_⟩
  rw [eo]
  refine brK_b (fun u => iK_i hn ?_) (fun u => ?_)
  · have u : und 8 o 1 = false := u
    rw [u] at k
    dsimp only
    rw [hR.1]
    refine brK_k (j := 7) ho (by decide) (fun z => ?_) (fun z => iK_i hn (brK_k (j := 6) ho (by decide) (fun z2 => ?_) (fun z2 => ?_)))
    · rw [z] at k
      exact c284 (by omega) hR (by omega) ⟨rfl, c286 (by omega) (RKn_t hR) (by omega) ⟨rfl, k⟩⟩
    · rw [z, z2] at k
      exact c286 (by omega) hR (by omega) ⟨rfl, k⟩
    · rw [z, z2] at k
      exact c285 (by omega) hR (by omega) ⟨rfl, k⟩
  · have u : und 8 o 1 = true := u
    rw [u] at k
    exact c284 (by omega) hR (by omega) ⟨rfl, c285 (by omega) (RKn_t hR) (by omega) ⟨rfl, k⟩⟩
theorem c292 (hd : 2 ≤ d) (hR : RKn N n o c) (hc : c < 1000) (k : f (x ^^^ n) (FR b, nsM N [11])) : WP d 107 292 0 [.ref 67, .int n, .int x] [] 107 (FR b, N) (rI f) := by
  obtain ⟨d, rfl⟩ := ex1 (e := 1) hd
  exact v292_0 (c284 (by omega) hR hc ⟨rfl, k⟩)
theorem c291 (hd : 3 ≤ d) (hR : RKn N n o c) (hc : c < 990) (k : f ((x ^^^ n) * 3) (FR b, nsM N [40, 11])) : WP d 107 291 0 [.ref 67, .int n, .int x] [] 107 (FR b, N) (rI f) := by
  obtain ⟨d, rfl⟩ := ex1 (e := 2) hd
  exact v291_0 (c284 (by omega) hR (by omega) ⟨rfl, c292 (by omega) (RKn_t hR) (by omega) ⟨rfl, k⟩⟩)
theorem c290 (hd : 6 ≤ d) (hn : ix n < 50) (ho : o < 8) (hR : RKn N n o c) (hc : c < 960) (k : f (selF o n x).1 (FR b, nsM N (selF o n x).2)) : WP d 107 290 0 [.ref 67, .int n, .int x, U] [] 107 (FR b, N) (rI f) := by
  obtain ⟨d, rfl⟩ := ex1 (e := 5) hd
  unfold selF at k
  refine v290_0 (iK_i hn ?_)
  rw [hR.1]
  refine brK_k (j := 5) ho (by decide) (fun z => ?_) (fun z => iK_i hn (brK_k (j := 3) ho (by decide) (fun z2 => ?_) (fun z2 => ?_)))
  · rw [z] at k
    exact c284 (by omega) hR (by omega) ⟨rfl, c291 (by omega) (RKn_t hR) (by omega) ⟨rfl, c282 (c := c + 1 + 2) (by omega) hn ho (RKn_s [40, 11] _ _ (RKn_t hR)) (by omega) ⟨rfl, k⟩⟩⟩
  · rw [z, z2] at k
    exact c291 (by omega) hR (by omega) ⟨rfl, k⟩
  · rw [z, z2] at k
    exact c292 (by omega) hR (by omega) ⟨rfl, k⟩
theorem c289 (hd : 5 ≤ d) (hn : ix n < 50) (ho : o < 8) (hR : RKn N n o c) (hc : c < 970) (k : f ((sayF o n x).1 * 2) (FR b, nsM N (10 :: (sayF o n x).2))) : WP d 107 289 0 [.ref 67, .int n, .int x] [] 107 (FR b, N) (rI f) := by
  obtain ⟨d, rfl⟩ := ex1 (e := 4) hd
  exact v289_0 (c284 (by omega) hR (by omega) ⟨rfl, c282 (by omega) hn ho (RKn_t hR) (by omega) ⟨rfl, k⟩⟩)
theorem c288 (hd : 6 ≤ d) (hn : ix n < 50) (ho : o < 8) (hR : RKn N n o c) (hc : c < 960) (k : f (-((sayF o n x).1 * 2)) (FR b, nsM N (30 :: 10 :: (sayF o n x).2))) : WP d 107 288 0 [.ref 67, .int n, .int x] [] 107 (FR b, N) (rI f) := by
  obtain ⟨d, rfl⟩ := ex1 (e := 5) hd
  exact v288_0 (c284 (by omega) hR (by omega) ⟨rfl, c289 (by omega) hn ho (RKn_t hR) (by omega) ⟨rfl, k⟩⟩)
theorem c287 (hd : 8 ≤ d) (hn : ix n < 50) (ho : o < 8) (hR : RKn N n o c) (hc : c < 940) (k : f (falF o n x).1 (FR b, nsM N (falF o n x).2)) : WP d 107 287 0 [.ref 67, .int n, .int x, U] [] 107 (FR b, N) (rI f) := by
  obtain ⟨d, rfl⟩ := ex1 (e := 7) hd
  have eo : ix (nI o) = o := ix_n (by omega)
  unfold falF at k
  refine v287_0 (iK_i hn ?_)
  rw [hR.1]
  refine c283 (by omega) (by omega) (by decide) ⟨rfl, ?_⟩
  rw [eo]
  refine brK_b (fun u => iK_i hn ?_) (fun u => ?_)
  · have u : und 8 o 3 = false := u
    rw [u] at k
    dsimp only
    rw [hR.1]
    refine brK_k (j := 7) ho (by decide) (fun z => ?_) (fun z => iK_i hn (brK_k (j := 2) ho (by decide) (fun z2 => ?_) (fun z2 => ?_)))
    · rw [z] at k
      have l3 := say_len ho (n := n) (x := x)
      have k : f ((sayF o n x).1 * 2 + (selF o n 2).1) (FR b, nsM (trM N 80) ((10 :: (sayF o n x).2) ++ (selF o n 2).2)) := k
      rw [nsM_app] at k
      exact c284 (by omega) hR (by omega) ⟨rfl, c289 (by omega) hn ho (RKn_t hR) (by omega) ⟨rfl, c290 (by omega) hn ho (RKn_s (10 :: (sayF o n x).2) _ _ (RKn_t hR)) (by rw [List.length_cons]; omega) ⟨rfl, k⟩⟩⟩
    · rw [z, z2] at k
      exact c288 (by omega) hn ho hR (by omega) ⟨rfl, k⟩
    · rw [z, z2] at k
      exact c289 (by omega) hn ho hR (by omega) ⟨rfl, k⟩
  · have u : und 8 o 3 = true := u
    rw [u] at k
    exact c284 (by omega) hR (by omega) ⟨rfl, c288 (by omega) hn ho (RKn_t hR) (by omega) ⟨rfl, k⟩⟩
theorem c294 (hd : 9 ≤ d) (hn : ix n < 50) (ho : o < 8) (hR : RKn N n o c) (hc : c < 920) (k : f (tlF o n x).1 (FR b, nsM N (tlF o n x).2)) : WP d 107 294 0 [.ref 67, .int n, .int x, U] [] 107 (FR b, N) (rI f) := by
  obtain ⟨d, rfl⟩ := ex1 (e := 8) hd
  have l10 := fal_len ho (n := n) (x := x)
  have k : f ((falF o n x).1 - (selF o n 1).1) (FR b, nsM (trM N 2) ((falF o n x).2 ++ (selF o n 1).2)) := k
  rw [nsM_app] at k
  exact v294_0 (c284 (by omega) hR (by omega) ⟨rfl, c287 (by omega) hn ho (RKn_t hR) (by omega) ⟨rfl, c290 (by omega) hn ho (RKn_s _ _ _ (RKn_t hR)) (by omega) ⟨rfl, k⟩⟩⟩)
theorem c293 (hd : 10 ≤ d) (hn : ix n < 50) (ho : o < 8) (hR : RKn N n o c) (hc : c < 910) (k : f (telF o n x).1 (FR b, nsM N (telF o n x).2)) : WP d 107 293 0 [.ref 67, .int n, .int x] [] 107 (FR b, N) (rI f) := by
  obtain ⟨d, rfl⟩ := ex1 (e := 9) hd
  unfold telF at k
  refine v293_0 (iK_i hn ?_)
  rw [hR.1]
  refine brK_k (j := 4) ho (by decide) (fun z => ?_) (fun z => iK_i hn (brK_k (j := 5) ho (by decide) (fun z2 => ?_) (fun z2 => ?_)))
  · rw [z] at k
    exact c284 (by omega) hR (by omega) ⟨rfl, c294 (by omega) hn ho (RKn_t hR) (by omega) ⟨rfl, k⟩⟩
  · rw [z, z2] at k
    exact c284 (by omega) hR (by omega) ⟨rfl, c294 (by omega) hn ho (RKn_t hR) (by omega) ⟨rfl, k⟩⟩
  · rw [z, z2] at k
    exact c294 (by omega) hn ho hR (by omega) ⟨rfl, k⟩
end ACT2
section ACT3
variable {b : Bool} {M : M2}
theorem P_act (hI : INV b M) {n a x : Int32} : PAIR b M 160 280 [.ref 4, .int n, .int a, .int x] [.ref 67, .int n, .int a, .int x] := by
  obtain ⟨hS, hH, hV, hSc, hL, hC, hA, hSh, hT, hLw⟩ := id hI
  intro d hd f k
  obtain ⟨d, rfl⟩ := ex1 (e := 199) hd
  obtain ⟨d, rfl⟩ := ex1 (e := 198) (d := d) (by omega)
  obtain ⟨hA1, hA2, hA3, hA4, hA5, hA6⟩ := id hA
  have nn0 : 0 ≤ (gI M 40 0).toInt := nn_of hA1 (by decide)
  -- all of it: the notes l, the answer v
  have fin : ∀ (l : List Int32), l.length ≤ 20 → INV b (nsM (sI (nsC (sI M 40 1 0) l) 67 59 0) l) ∧ gI (nsM (sI (nsC (sI M 40 1 0) l) 67 59 0) l) 3 = gI M 3 ∧ gI (nsC (sI M 40 1 0) l) 3 = gI M 3 := by
    intro l hl
    have R0 : RT (sI M 40 1 0) (sI (nsC (sI M 40 1 0) l) 67 59 0) 0 := by
      refine ⟨gI_s .., gI_s .., fun j hj => ?_⟩
      rw [gI_or (by decide), gI_or (by decide), agr_nI (p := fr [40, 42]) (agr_nsC rfl (fun _ => rfl) l _) rfl, gI_or (by decide)]
      exact hA6 j hj
    have R1 := RT_s l _ _ 0 R0 (by omega)
    have A : ∀ q : Nat → Nat → Bool, q 40 1 = false → (∀ j, q 42 j = false) → q 67 59 = false → (∀ j, q 102 j = false) → agr q M (nsM (sI (nsC (sI M 40 1 0) l) 67 59 0) l) := fun q h1 h2 h3 h4 => agr_t (agr_sI h1 (agr_r M)) (agr_t (agr_nsC h1 h2 l _) (agr_t (agr_sI h3 (agr_r _)) (agr_nsM h3 h4 l _)))
    have fC : agr (fr [67, 102]) (nsC (sI M 40 1 0) l) (nsM (sI (nsC (sI M 40 1 0) l) 67 59 0) l) := agr_t (agr_sI rfl (agr_r _)) (agr_nsM rfl (fun _ => rfl) l _)
    refine ⟨⟨StatW_a (A _ rfl (fun _ => rfl) rfl (fun _ => rfl)) hS, HimR_a (A _ rfl (fun _ => rfl) rfl (fun _ => rfl)) hH, VilR_a (A _ rfl (fun _ => rfl) rfl (fun _ => rfl)) hV, SchR_a (A _ rfl (fun _ => rfl) rfl (fun _ => rfl)) hSc, LedR_a (A _ rfl (fun _ => rfl) rfl (fun _ => rfl)) hL, ChgR_a (A _ rfl (fun _ => rfl) rfl (fun _ => rfl)) hC, ?_, ShfR_a (A _ rfl (fun _ => rfl) rfl (fun _ => rfl)) hSh, TapR_a (A _ rfl (fun _ => rfl) rfl (fun _ => rfl)) hT, LawR_a (A _ (by cases b <;> rfl) (fun _ => by cases b <;> rfl) (by cases b <;> rfl) (fun _ => by cases b <;> rfl)) hLw⟩, funext fun j => (A (fr [40, 42, 67, 102]) rfl (fun _ => rfl) rfl (fun _ => rfl) 3 j rfl).1, funext fun j => (agr_t (agr_sI (p := fr [40, 42]) rfl (agr_r M)) (agr_nsC rfl (fun _ => rfl) l _) 3 j rfl).1⟩
    have q : agr (fun r j => !(Nat.beq r 40 && Nat.beq j 1) && (nin [42, 102] r && !(Nat.beq r 67 && Nat.beq j 59))) M (nsM (sI (nsC (sI M 40 1 0) l) 67 59 0) l) := A _ rfl (fun j => by simp [nin]) rfl (fun j => by simp [nin])
    have e0 : gI (nsM (sI (nsC (sI M 40 1 0) l) 67 59 0) l) 40 0 = gI M 40 0 := (q 40 0 rfl).1
    have e57 : gI (nsM (sI (nsC (sI M 40 1 0) l) 67 59 0) l) 67 57 = gI M 67 57 := (q 67 57 rfl).1
    have e41 : ∀ j, gI (nsM (sI (nsC (sI M 40 1 0) l) 67 59 0) l) 41 j = gI M 41 j := fun j => (q 41 j rfl).1
    have e101 : ∀ j, gI (nsM (sI (nsC (sI M 40 1 0) l) 67 59 0) l) 101 j = gI M 101 j := fun j => (q 101 j rfl).1
    have e1 : gI (nsM (sI (nsC (sI M 40 1 0) l) 67 59 0) l) 40 1 = nI (0 + l.length) := (agr_nI fC rfl).trans R1.1
    refine ⟨by rw [e0]; exact hA1, by rw [e57, e0]; exact hA2, fun j hj => by rw [e41, e101]; exact hA3 j hj, ?_, ?_, fun j hj => ?_⟩
    · rw [e1, ix_n (by omega)]; omega
    · rw [e1]; exact R1.2.1
    · rw [R1.2.2 j hj]
      exact (agr_nI fC rfl).symm
  have none : (∀ (N : M2) (f2 : Int32 → Mm → Prop), gI N 67 57 = gI M 67 57 → f2 0 (FR b, sI N 67 59 0) → WP (d + 2) 107 280 0 [.ref 67, .int n, .int a, .int x] [] 107 (FR b, N) (rI f2)) → f 0 (FR b, sI M 40 1 0) := by
    intro h
    have F := fin [] (by decide)
    exact k _ _ F.2.2 (fun f2 k2 => h _ f2 (gI_or (by decide)) (k2 _ F.1 F.2.1))
  have e57 : ∀ N : M2, gI N 67 57 = gI M 67 57 → gI (sI N 67 59 0) 67 57 = gI M 40 0 := fun N h => by rw [gI_oj (by decide), h]; exact hA2
  refine v160_0 (v161_0 (c162 (by omega) (by rw [gI_oj (by decide)]; exact nn0) ⟨rfl, ?_⟩))
  dsimp only
  rw [show gI (sI M 40 1 0) 40 0 = gI M 40 0 from gI_oj (by decide)]
  have r4 : ∀ v : Int32, rg v (3 + 1) = rg v 4 := fun _ => rfl
  have bad : rg n (ix (gI M 40 0)) = true → rg a 4 = false → f 0 (FR b, sI M 40 1 0) := fun h h2 => none (fun N f2 eN q => by
    refine v280_0 (c281 (by omega) (by rw [e57 N eN]; exact nn0) ⟨rfl, ?_⟩)
    rw [e57 N eN, h]
    refine brK_f (by decide) (c180n 3 (by omega) rfl (by decide) ⟨rfl, brK_b (fun _ => q) (fun z => ff h2 z)⟩))
  have a1 := ix_t a
  refine brK_b (fun h => ⟨rfl, none (fun N f2 eN q => v280_0 (c281 (by omega) (by rw [e57 N eN]; exact nn0) ⟨rfl, ?_⟩))⟩) (fun h => ⟨fun h2 => ⟨rfl, bad h ?_⟩, fun h2 => ⟨fun h3 => ?_, fun h3 => ⟨rfl, bad h ?_⟩⟩⟩)
  · have h : rg n (ix (gI M 40 0)) = false := h
    rw [e57 N eN, h]; exact brK_t rfl q
  · rw [i_lt, z_toInt] at h2
    exact rg_f.mpr (by omega)
  · have h : rg n (ix (gI M 40 0)) = true := h
    rw [i_lt, z_toInt] at h2
    rw [i_lt, show (4 : Int32).toInt = 4 from rfl] at h3
    have ha : ix a < 4 := by omega
    have hn : ix n < 50 := by have := rg_tt h; omega
    have hk := hA3 (ix n) hn
    obtain ⟨o, ho, eo⟩ := nI_of_lt hk.1
    have act := act_eq (n := n) (x := x) ho ha
    have F := fin (actF (ix a) o n x).2 act.2
    have F0 : agr (fr [40, 42]) M (sI M 40 1 0) := agr_sI rfl (agr_r M)
    refine c15 (by omega) (by decide) (Or.inl rfl) ⟨rfl, ?_⟩
    rw [atV_t (show ix n < ln 41 from hn), agr_nI F0 rfl, eo]
    have R := c163 (b := b) (n := n) (own := o) hn ho 40 (ix a) o x (sI M 40 1 0) (fun v6 N5 => N5.1 = FR b ∧ rI (fun v2 N1 => N1.1 = FR b ∧ rI f (some (.int v2)) (FR b, N1.2)) (some (.int v6)) (FR b, N5.2)) d 0 (by omega) (by omega) ha ho (StatW_f F0 hS) ((agr_nI F0 rfl).trans eo) (gI_s ..) (by rw [act.1]; have := act.2; omega)
    rw [n_ix, act.1, show nI (40 - 40) = 0 from rfl] at R
    refine R ⟨rfl, rfl, ?_⟩
    refine k _ _ F.2.2 (fun f2 k2 => ?_)
    have k3 := k2 _ F.1 F.2.1
    have eN : gI (nsC (sI M 40 1 0) (actF (ix a) o n x).2) 67 57 = gI M 67 57 := (agr_nI (p := fr [40, 42]) (agr_t F0 (agr_nsC rfl (fun _ => rfl) _ _)) rfl)
    have e101 : gI (nsC (sI M 40 1 0) (actF (ix a) o n x).2) 101 (ix n) = nI o := ((agr_nI (p := fr [40, 42]) (agr_t F0 (agr_nsC rfl (fun _ => rfl) _ _)) rfl).trans hk.2).trans eo
    have RR : RKn (sI (nsC (sI M 40 1 0) (actF (ix a) o n x).2) 67 59 0) n o 0 := ⟨(gI_or (by decide)).trans e101, gI_s ..⟩
    generalize nsC (sI M 40 1 0) (actF (ix a) o n x).2 = N at eN RR k3
    refine v280_0 (c281 (by omega) (by rw [e57 N eN]; exact nn0) ⟨rfl, ?_⟩)
    rw [e57 N eN, h]
    have ra : rg a 4 = true := rg_t.mpr ha
    refine brK_f (by decide) (c180n 3 (by omega) rfl (by decide) ⟨rfl, brK_b (fun z => ff z ra) (fun _ => ?_)⟩)
    have : ix a = 0 ∨ ix a = 1 ∨ ix a = 2 ∨ ix a = 3 := by omega
    have ea : a = nI (ix a) := (n_ix a).symm
    rcases this with e | e | e | e <;> rw [e] at k3 ea <;> rw [ea]
    · exact brK_t rfl (c282 (by omega) hn ho RR (by omega) ⟨rfl, k3⟩)
    · exact brK_f (by decide) (brK_t rfl (c287 (by omega) hn ho RR (by omega) ⟨rfl, k3⟩))
    · exact brK_f (by decide) (brK_f (by decide) (brK_t rfl (c290 (by omega) hn ho RR (by omega) ⟨rfl, k3⟩)))
    · exact brK_f (by decide) (brK_f (by decide) (brK_f (by decide) (c293 (by omega) hn ho RR (by omega) ⟨rfl, k3⟩)))
  · rw [i_lt, z_toInt] at h2
    rw [i_lt, show (4 : Int32).toInt = 4 from rfl] at h3
    exact rg_f.mpr (by omega)
end ACT3
