/-! make, most, quiet -/
def hoN (b : Bool) (S : M2) (B : Nat) (set : Int32) : Nat → Nat → Nat
  | 0, _ => 0
  | m + 1, n => bif decide (wtK b S 0 B set n 0 (st0 S) = 1) then n else hoN b S B set m (n + 1)
theorem hoN_0 {b : Bool} {S : M2} {B : Nat} {set : Int32} (hB : ∃ r, r < 10 ∧ B.testBit r = true) (hs0 : st0 S < 256) (hz : ∀ k, k < 12 → ¬ sayP b S B (st0 S) set k) : ∀ m n, n + m = 13 → 1 ≤ n → hoN b S B set m n = 0
  | 0, n, _, _ => rfl
  | m + 1, n, h, h1 => by
    unfold hoN
    obtain ⟨j, rfl⟩ : ∃ j, n = j + 1 := ⟨n - 1, by omega⟩
    rw [decide_eq_false (fun e => hz j (by omega) ((say_i (b := b) (S := S) (set := set) hB (by omega) hs0).mp e))]
    exact hoN_0 hB hs0 hz m (j + 1 + 1) (by omega) (by omega)
theorem hoN_s {b : Bool} {S : M2} {B : Nat} {set : Int32} (hB : ∃ r, r < 10 ∧ B.testBit r = true) (hs0 : st0 S < 256) {n' : Nat} (h1 : 1 ≤ n') (h12 : n' ≤ 12) (hs : sayP b S B (st0 S) set (n' - 1)) (hz : ∀ k, k < n' - 1 → ¬ sayP b S B (st0 S) set k) : ∀ m n, n + m = 13 → 1 ≤ n → n ≤ n' → hoN b S B set m n = n'
  | 0, n, h, _, h3 => absurd h3 (by omega)
  | m + 1, n, h, h2, h3 => by
    unfold hoN
    obtain ⟨j, rfl⟩ : ∃ j, n = j + 1 := ⟨n - 1, by omega⟩
    have si := say_i (b := b) (S := S) (B := B) (s0 := st0 S) (set := set) hB (n := j) (by omega) hs0
    by_cases e : j + 1 = n'
    · subst e
      rw [decide_eq_true (si.mpr hs)]
      rfl
    · rw [decide_eq_false (fun q => hz j (by omega) (si.mp q))]
      exact hoN_s hB hs0 h1 h12 hs hz m (j + 1 + 1) (by omega) (by omega) (by omega)
theorem hoP_N {b : Bool} {S : M2} {B : Nat} {set : Int32} {n' : Nat} (hB : ∃ r, r < 10 ∧ B.testBit r = true) (hs0 : st0 S < 256) (h : hoP b S 0 B set 12 n') : n' = hoN b S B set 12 1 := by
  rcases h.2.2 rfl rfl with ⟨h1, h2⟩ | ⟨h1, h2, h3⟩
  · rw [h1, hoN_0 hB hs0 h2 12 1 rfl (by omega)]
  · rw [hoN_s hB hs0 h1 h.1 h2 h3 12 1 rfl (by omega) h1]
def plvK (b : Bool) (S : M2) (a B : Nat) (set : Int32) (n : Nat) (w v : Int32) : Int32 := bif decide (w < 0) then v else bif Nat.blt (ix w) n then nI (rkK b S a B set n (st0 S) (ix w)) else -2
def makV (b : Bool) (S : M2) (x w : Int32) : Int32 := bif rg x 16384 && decide (-1 ≤ w) then (bif Nat.beq (hoN b S (b1N (ix x % 1024)) ((1 : Int32) <<< (nI (ix x / 1024) &&& 31)) 12 1) 0 then -2 else plvK b S 0 (b1N (ix x % 1024)) ((1 : Int32) <<< (nI (ix x / 1024) &&& 31)) (hoN b S (b1N (ix x % 1024)) ((1 : Int32) <<< (nI (ix x / 1024) &&& 31)) 12 1) w (nI (hoN b S (b1N (ix x % 1024)) ((1 : Int32) <<< (nI (ix x / 1024) &&& 31)) 12 1))) else -1
def ipB (x : Int32) : Bool := decide (1024 ≤ ix x) && decide (ix x < 13312)
def mstV (b : Bool) (S : M2) (s x w : Int32) : Int32 := bif rg s 65536 && (ipB x && decide (-1 ≤ w)) then plvK b S 1 (b1N (ix x % 1024)) s (ix x / 1024) w (Int32.ofInt (wtK b S 1 (b1N (ix x % 1024)) s (ix x / 1024) 0 (st0 S))) else -1
def quiV (b : Bool) (S : M2) (x w : Int32) : Int32 := bif ipB x && decide (-1 ≤ w) then plvK b S 2 (b1N (ix x % 1024)) 0 (ix x / 1024) w (-(Int32.ofInt (wtK b S 2 (b1N (ix x % 1024)) 0 (ix x / 1024) 0 (st0 S)))) else -1
theorem ofI {v : Int32} {z : Int} (h : v.toInt = z) : v = Int32.ofInt z := by rw [← h]; exact (Int32.ofInt_toInt v).symm
theorem d1024 {x : Int32} (h : ix x < 2 ^ 31) : x / 1024 = nI (ix x / 1024) ∧ x - x / 1024 * 1024 = nI (ix x % 1024) := by
  have e1 := nI_div (a := ix x) (b := 1024) (by omega) (by decide)
  have e2 := nI_md (a := ix x) (b := 1024) (by omega) (by decide)
  rw [n_ix] at e1 e2
  exact ⟨e1, e2⟩
section PLANS
variable {d : Nat} {b : Bool} {S : M2} {a B n : Nat} {set so : Int32}
theorem c114 {f : Int32 → Mm → Prop} {x : Int32} {N : M2} (hd : 1 ≤ d) (k : f (bI (ipB x)) (FR b, N)) : WP d 107 114 0 [.int x] [] 107 (FR b, N) (rI f) := by
  obtain ⟨d, rfl⟩ := ex1 hd
  have x1 := ix_t x
  have i1 : (1024 : Int32).toInt = 1024 := rfl
  have i2 : (13312 : Int32).toInt = 13312 := rfl
  unfold ipB at k
  refine v114_0 ⟨fun z => ?_, fun z => ⟨fun z2 => ?_, fun z2 => ?_⟩⟩
  · rw [i_lt, i1] at z
    by_cases q : 1024 ≤ ix x
    · rw [decide_eq_true q, decide_eq_false (show ¬ ix x < 13312 by omega)] at k; exact k
    · rw [decide_eq_false q] at k; exact k
  · rw [i_lt, i1] at z
    rw [i_le, i2] at z2
    rw [decide_eq_false (show ¬ ix x < 13312 by omega), Bool.and_false] at k; exact k
  · rw [i_lt, i1] at z
    rw [i_le, i2] at z2
    rw [decide_eq_true (show 1024 ≤ ix x by omega), decide_eq_true (show ix x < 13312 by omega)] at k; exact k
theorem c240 {f : Int32 → Mm → Prop} {x : Int32} {N : M2} (hd : 2 ≤ d) (k : f (bI (ipB x)) (FR b, N)) : WP d 107 240 0 [.int x] [] 107 (FR b, N) (rI f) := by
  obtain ⟨d, rfl⟩ := ex1 (e := 1) hd
  have x1 := ix_t x
  unfold ipB at k
  refine v240_0 ⟨fun z => ?_, fun z => c180 (by omega) ⟨rfl, ?_⟩⟩
  · rw [i_lt, z_toInt] at z
    by_cases q : 1024 ≤ ix x
    · rw [decide_eq_true q, decide_eq_false (show ¬ ix x < 13312 by omega)] at k; exact k
    · rw [decide_eq_false q] at k; exact k
  · rw [i_lt, z_toInt] at z
    rw [(d1024 (by omega)).1]
    have n1 := nI_toInt (n := ix x / 1024) (by omega)
    have i1 : (1 : Int32).toInt = 1 := rfl
    have i2 : (12 : Int32).toInt = 12 := rfl
    have e : inV (nI (ix x / 1024)) 1 12 = (decide (1024 ≤ ix x) && decide (ix x < 13312)) := by
      unfold inV
      congr 1
      · exact decide_eq_decide.mpr (by rw [i_le, i1, n1]; omega)
      · exact decide_eq_decide.mpr (by rw [i_le, i2, n1]; omega)
    rw [e]
    refine brK_b (fun q => ?_) (fun q => ?_)
    · rw [q] at k; exact k
    · rw [q] at k; exact k
theorem c231 {f : Int32 → Mm → Prop} {x : Nat} {N : M2} (hd : 1 ≤ d) (hx : x < 1024) (k : f (nI (b1N x)) (FR b, N)) : WP d 107 231 0 [.ref 67, .int (nI x)] [] 107 (FR b, N) (rI f) := by
  obtain ⟨d, rfl⟩ := ex1 hd
  unfold b1N at k
  refine v231_0 ⟨fun z => ?_, fun z => ?_⟩
  · have : x = 0 := by
      have := (ix_eq (n := 0) (by decide)).mp z
      rw [ix_n (by omega)] at this
      exact this
    subst this
    exact k
  · have : ¬ x = 0 := fun e => z (by rw [e]; rfl)
    rw [beq_f this] at k
    exact k
theorem wneg {w : Int32} (h : -1 ≤ w) : (w < 0 → w = -1) ∧ (¬ w < 0 → ix w < 2147483648) := by
  have w1 := ix_t w
  rw [i_le, show ((-1 : Int32)).toInt = -1 from rfl] at h
  refine ⟨fun q => ?_, fun q => ?_⟩
  · rw [i_lt, z_toInt] at q
    apply i_eq.mpr
    show w.toInt = -1
    omega
  · rw [i_lt, z_toInt] at q
    omega
theorem ge_nlt {w : Int32} : 0 ≤ w ↔ ¬ w < 0 := by rw [i_le, i_lt]; omega
/-- the end of a plan, the class's side -/
theorem planC {f : Int32 → Mm → Prop} {w v : Int32} {N : M2} (hd : 2 ≤ d) (hn : n ≤ 12) (h43 : gI N 43 4 = nI n) (h45 : ∀ k, k < n → gI N 45 k = nI (rkK b S a B set n (st0 S) k)) (k : f (plvK b S a B set n w v) (FR b, N)) : brK (0 ≤ w) (WP d 107 100 0 [.ref 43, .int w] [] 107 (FR b, N) (rI (fun v N1 => N1.1 = FR b ∧ f v (FR b, N1.2)))) (f v (FR b, N)) := by
  unfold plvK at k
  refine ⟨fun z => ?_, fun z => ?_⟩
  · rw [decide_eq_false (ge_nlt.mp z)] at k
    refine c100 (m := n) hd hn h43 (fun q => ?_) (fun q => ?_)
    · rw [blt_i.mpr q] at k
      rw [h45 _ q]
      exact ⟨rfl, k⟩
    · rw [blt_f.mpr q] at k
      exact ⟨rfl, k⟩
  · rw [decide_eq_true (show w < 0 by have := mt ge_nlt.mpr z; exact Classical.not_not.mp this)] at k
    exact k
/-- the end of a plan, the reference's -/
theorem planR {f : Int32 → Mm → Prop} {w v : Int32} {N : M2} (hd : 7 ≤ d) (hI : INV b S) (hA : agr (pC b) S N) (ha : a ≤ 2) (hB : B < 1024) (hB2 : ∃ r, r < 10 ∧ B.testBit r = true) (hn : n ≤ 12) (hw : -1 ≤ w) (hQ : QrK a n so N) (hso : soR a set so) (hlt : ∀ k, k ≤ n → LtK b S a B set n k N) (h0 : w < 0 → f v (FR b, N)) (k : ∀ N', agr (pC b) S N' → f (plvK b S a B set n w v) (FR b, N')) : brK (0 ≤ w) (brK (nI n ≤ w) (f (-2) (FR b, N)) (WP d 107 238 0 [.ref 67, .int w, .int (nI B), U, U, U, U, U] [] 107 (FR b, N) (rI (fun v N1 => N1.1 = FR b ∧ f v (FR b, N1.2))))) (f v (FR b, N)) := by
  unfold plvK at k
  have wn := wneg hw
  refine ⟨fun z => ?_, fun z => ?_⟩
  · have z2 := ge_nlt.mp z
    have hw31 := wn.2 z2
    rw [decide_eq_false z2] at k
    refine ⟨fun y => ?_, fun y => ?_⟩
    · rw [ix_leI (by rw [ix_n (by omega)]; omega) hw31, ix_n (by omega)] at y
      rw [blt_f.mpr (by omega)] at k
      exact k N hA
    · rw [ix_leI (by rw [ix_n (by omega)]; omega) hw31, ix_n (by omega)] at y
      rw [blt_i.mpr (by omega)] at k
      exact c238 (b := b) (S := S) (a := a) (B := B) (set := set) (so := so) (n := n) hd hI hA ha hB hB2 hn (by omega) hQ hso hlt (fun N' hN' => ⟨rfl, k N' (agr_t hA (frk_pC (frk_s (by decide) hN')))⟩)
  · exact h0 (Classical.not_not.mp (mt ge_nlt.mpr z))
theorem left0 {N : M2} (hlt : LtK b S a B set n 0 N) (hs0 : st0 S < 256) : (gI N 87 (st0 S)).toInt = wtK b S a B set n 0 (st0 S) + offK a n 0 := by
  have := hlt (st0 S) hs0
  rw [Nat.zero_mul, Nat.zero_add] at this
  exact this
theorem c237s {f : Int32 → Mm → Prop} {N : M2} (hd : 1 ≤ d) (hI : INV b S) (hA : agr (pC b) S N) (q : f (gI N 87 (st0 S)) (FR b, N)) : WP d 107 237 0 [.ref 67, .int 0, .int (gI N 68 0), .int (gI N 68 2)] [] 107 (FR b, N) (rI f) := by
  have h1 : ix (gI S 5 0) < 16 := hI.2.1.1 0 (by decide)
  have h2 : ix (gI S 5 2) < 16 := hI.2.1.1 2 (by decide)
  rw [e68 hI hA (by decide), e68 hI hA (by decide)]
  have := c237 (b := b) (f := f) (N := N) (k := 0) (m := ix (gI S 5 0)) (l := ix (gI S 5 2)) hd (by decide) h1 h2 (by
    rw [Nat.zero_mul, Nat.zero_add]
    exact q)
  rw [n_ix, n_ix] at this
  exact this
theorem P_make (hI : INV b S) {x w : Int32} : PAIR b S 85 230 [.ref 4, .int x, .int w] [.ref 67, .int x, .int w, U, U] := by
  have hs0 := st0_lt hI.2.1.1
  refine PAIR_ro hI (makV b S x w) (fun d hd f k => ?_) (fun N hA d hd f k => ?_)
  · unfold makV at k
    refine v85_0 (brK_rg (n := 16384) rfl (by decide) (fun h => ?_) (fun h => brK_d (fun h2 => ?_) (fun h2 => ?_)))
    · rw [h] at k; exact k S (agr_r S)
    · have hx := rg_tt h
      obtain ⟨hB, hB2⟩ := b1_ok (x := ix x % 1024) (by omega)
      rw [h, h2] at k
      rw [(d1024 (by omega)).2, (d1024 (by omega)).1]
      generalize (1 : Int32) <<< (nI (ix x / 1024) &&& 31) = set at k ⊢
      refine c86 (b := b) (S := S) (a := 0) (n := 12) (x := ix x % 1024) (set := set) (by omega) hI (agr_r S) (by decide) (by decide) (by omega) (fun N' n' v hN' hho h43 h45 hv => ⟨rfl, ?_⟩)
      have en := hoP_N hB2 hs0 hho
      have k2 := k N' (frp_pC hN')
      rw [← en] at k2
      have hn12 := hho.1
      have k2 : f (bif Nat.beq n' 0 then -2 else plvK b S 0 (b1N (ix x % 1024)) set n' w (nI n')) (FR b, N') := k2
      dsimp only
      rw [h43]
      refine ⟨fun z => ?_, fun z => ?_⟩
      · have : n' = 0 := by
          have := (ix_eq (n := 0) (by decide)).mp z
          rw [ix_n (by omega)] at this
          exact this
        rw [beq_t this] at k2
        exact k2
      · have : n' ≠ 0 := fun e => z (by rw [e]; rfl)
        rw [beq_f this] at k2
        exact planC (b := b) (S := S) (a := 0) (B := b1N (ix x % 1024)) (set := set) (by omega) hn12 h43 h45 k2
    · rw [h, h2] at k; exact k S (agr_r S)
  · unfold makV at k
    have x1 := ix_t x
    refine v230_0 ⟨fun h => ?_, fun h => ?_⟩
    · rw [i_lt, z_toInt] at h
      rw [show rg x 16384 = false from rg_f.mpr (by omega)] at k; exact k N hA
    · rw [i_lt, z_toInt] at h
      rw [(d1024 (by omega)).2, (d1024 (by omega)).1]
      refine c193 (by omega) ⟨rfl, brK_b (fun h1 => ?_) (fun h1 => brK_d (fun h2 => ?_) (fun h2 => ?_))⟩
      · have h1 := rg_f.mp h1
        rw [ix_n (by omega)] at h1
        rw [show rg x 16384 = false from rg_f.mpr (by omega)] at k; exact k N hA
      · have h1' := rg_tt h1
        rw [ix_n (by omega)] at h1'
        have hx : rg x 16384 = true := rg_t.mpr (by omega)
        obtain ⟨hB, hB2⟩ := b1_ok (x := ix x % 1024) (by omega)
        rw [hx, h2] at k
        refine c231 (by omega) (by omega) ⟨rfl, ?_⟩
        have hso : soR 0 ((1 : Int32) <<< (nI (ix x / 1024) &&& 31)) (nI (ix x / 1024)) := ⟨fun _ => ⟨by rw [ix_n (by omega)]; omega, rfl⟩, fun e => absurd e (by decide)⟩
        generalize (1 : Int32) <<< (nI (ix x / 1024) &&& 31) = set at k hso
        have hw := of_decide_eq_true h2
        have k : ∀ M', agr (pC b) S M' → f (bif Nat.beq (hoN b S (b1N (ix x % 1024)) set 12 1) 0 then -2 else plvK b S 0 (b1N (ix x % 1024)) set (hoN b S (b1N (ix x % 1024)) set 12 1) w (nI (hoN b S (b1N (ix x % 1024)) set 12 1))) (FR b, M') := k
        have l : ∀ m n (N2 : M2), n + m = 13 → 1 ≤ n → agr (pC b) S N2 → gI N2 67 38 = nI 0 → gI N2 67 37 = nI (ix x / 1024) → hoN b S (b1N (ix x % 1024)) set m n = hoN b S (b1N (ix x % 1024)) set 12 1 → WP (d + 1) 107 230 49 [.ref 67, .int x, .int w, .int (nI (b1N (ix x % 1024))), .int (nI n)] [] 107 (FR b, N2) (rI f) := by
          intro m
          induction m with
          | zero =>
            intro n N2 hn h1 hA2 h38 h37 he
            rw [← he] at k
            exact v230_49 (brK_t (by rw [show (12 : Int32) = nI 12 from rfl, nI_ltI (by decide) (by omega)]; omega) (k N2 hA2))
          | succ m ih =>
            intro n N2 hn h1 hA2 h38 h37 he
            refine v230_49 (brK_f (by rw [show (12 : Int32) = nI 12 from rfl, nI_ltI (by decide) (by omega)]; omega) (c232 (b := b) (S := S) (a := 0) (B := b1N (ix x % 1024)) (set := set) (so := nI (ix x / 1024)) (n := n) (by omega) hI hA2 (by decide) hB hB2 h1 (by omega) h38 h37 hso (fun N3 hN3 hQ hlt => ⟨rfl, ?_⟩)))
            have hA3 : agr (pC b) S N3 := agr_t hA2 (frk_pC hN3)
            refine c237s (S := S) (by omega) hI hA3 ⟨rfl, ?_⟩
            have l0 := left0 (hlt 0 (by omega)) hs0
            have w01 := wt0_01 (b := b) (S := S) (set := set) hB2 (by omega : n ≤ 12) n 0 (st0 S) (by omega)
            have eo : offK 0 n 0 = -1 := by show (bif Nat.blt 0 n then -1 else 0) = (-1 : Int); rw [blt_i.mpr (by omega)]; rfl
            rw [eo] at l0
            unfold hoN at he
            refine ⟨fun z => ?_, fun z => ?_⟩
            · rw [i_lt, z_toInt] at z
              dsimp only at z
              rw [l0] at z
              rw [decide_eq_false (show ¬ wtK b S 0 (b1N (ix x % 1024)) set n 0 (st0 S) = 1 by omega)] at he
              rw [nI_1]
              exact ih (n + 1) N3 (by omega) (by omega) hA3 (hQ.1) (hQ.2.1) he
            · rw [i_lt, z_toInt] at z
              dsimp only at z
              rw [l0] at z
              rw [decide_eq_true (show wtK b S 0 (b1N (ix x % 1024)) set n 0 (st0 S) = 1 by omega)] at he
              have he : n = hoN b S (b1N (ix x % 1024)) set 12 1 := he
              rw [← he, beq_f (show n ≠ 0 by omega)] at k
              refine planR (b := b) (S := S) (a := 0) (B := b1N (ix x % 1024)) (set := set) (so := nI (ix x / 1024)) (n := n) (by omega) hI hA3 (by decide) hB hB2 (by omega) hw hQ hso hlt (fun q => ?_) k
              have := k N3 hA3
              unfold plvK at this
              rw [decide_eq_true q] at this
              exact this
        exact l 12 1 _ (by omega) (by omega) (agr_sI rfl (agr_sI rfl hA)) (by rw [gI_oj (by decide)]; exact gI_s ..) (gI_s ..) rfl
      · rw [h2, Bool.and_false] at k; exact k N hA
theorem P_most (hI : INV b S) {s x w : Int32} : PAIR b S 113 239 [.ref 4, .int s, .int x, .int w, U] [.ref 67, .int s, .int x, .int w, U] := by
  have hs0 := st0_lt hI.2.1.1
  refine PAIR_ro hI (mstV b S s x w) (fun d hd f k => ?_) (fun N hA d hd f k => ?_)
  · unfold mstV at k
    refine v113_0 (brK_rg (n := 65536) rfl (by decide) (fun h => ?_) (fun h => c114 (by omega) ⟨rfl, brK_b (fun h1 => ?_) (fun h1 => brK_d (fun h2 => ?_) (fun h2 => ?_))⟩))
    · rw [h] at k; exact k S (agr_r S)
    · rw [h, h1] at k; exact k S (agr_r S)
    · rw [h, h1, h2] at k
      unfold ipB at h1
      rw [Bool.and_eq_true] at h1
      have g1 := of_decide_eq_true h1.1
      have g2 := of_decide_eq_true h1.2
      rw [(d1024 (by omega)).2, (d1024 (by omega)).1]
      refine c86 (b := b) (S := S) (a := 1) (n := ix x / 1024) (x := ix x % 1024) (set := s) (by omega) hI (agr_r S) (by decide) (by omega) (by omega) (fun N' n' v hN' hho h43 h45 hv => ⟨rfl, ?_⟩)
      have en := hho.2.1 (by decide)
      subst en
      rw [ofI hv]
      exact planC (b := b) (S := S) (a := 1) (B := b1N (ix x % 1024)) (set := s) (by omega) (by omega) h43 h45 (k N' (frp_pC hN'))
    · rw [h, h1, h2] at k; exact k S (agr_r S)
  · unfold mstV at k
    refine v239_0 (c180n 65535 (by omega) rfl (by decide) ⟨rfl, brK_b (fun h => ?_) (fun h => c240 (by omega) ⟨rfl, brK_b (fun h1 => ?_) (fun h1 => brK_d (fun h2 => ?_) (fun h2 => ?_))⟩)⟩)
    · have h : rg s 65536 = false := h
      rw [h] at k; exact k N hA
    · have h : rg s 65536 = true := h
      rw [h, h1] at k; exact k N hA
    · have h : rg s 65536 = true := h
      rw [h, h1, h2] at k
      unfold ipB at h1
      rw [Bool.and_eq_true] at h1
      have g1 := of_decide_eq_true h1.1
      have g2 := of_decide_eq_true h1.2
      obtain ⟨hB, hB2⟩ := b1_ok (x := ix x % 1024) (by omega)
      have hw := of_decide_eq_true h2
      rw [(d1024 (by omega)).2, (d1024 (by omega)).1]
      have hA0 : agr (pC b) S (sI (sI N 67 38 1) 67 37 s) := agr_sI rfl (agr_sI rfl hA)
      refine c231 (by omega) (by omega) ⟨rfl, c232 (b := b) (S := S) (a := 1) (B := b1N (ix x % 1024)) (set := s) (so := s) (n := ix x / 1024) (by omega) hI hA0 (by decide) hB hB2 (by omega) (by omega) (by rw [gI_oj (by decide)]; exact gI_s ..) (gI_s ..) ⟨fun e => absurd e (by decide), fun _ => rfl⟩ (fun N3 hN3 hQ hlt => ⟨rfl, ?_⟩)⟩
      have hA3 : agr (pC b) S N3 := agr_t hA0 (frk_pC hN3)
      have l0 := left0 (hlt 0 (by omega)) hs0
      have eo : offK 1 (ix x / 1024) 0 = 0 := rfl
      rw [eo, Int.add_zero] at l0
      have pr := planR (b := b) (S := S) (d := d) (f := f) (w := w) (v := Int32.ofInt (wtK b S 1 (b1N (ix x % 1024)) s (ix x / 1024) 0 (st0 S))) (N := N3) (a := 1) (B := b1N (ix x % 1024)) (set := s) (so := s) (n := ix x / 1024) (by omega) hI hA3 (by decide) hB hB2 (by omega) hw hQ ⟨fun e => absurd e (by decide), fun _ => rfl⟩ hlt (fun q => ?_) k
      · refine ⟨fun z => ⟨fun y => (pr.1 z).1 y, fun y => ?_⟩, fun z => c237s (S := S) (by omega) hI hA3 ⟨rfl, ?_⟩⟩
        · exact (pr.1 z).2 y
        · rw [ofI l0]
          exact pr.2 z
      · have := k N3 hA3
        unfold plvK at this
        rw [decide_eq_true q] at this
        exact this
    · have h : rg s 65536 = true := h
      rw [h, h1, h2] at k; exact k N hA
theorem P_quiet (hI : INV b S) {x w : Int32} : PAIR b S 115 241 [.ref 4, .int x, .int w, U] [.ref 67, .int x, .int w, U] := by
  have hs0 := st0_lt hI.2.1.1
  refine PAIR_ro hI (quiV b S x w) (fun d hd f k => ?_) (fun N hA d hd f k => ?_)
  · unfold quiV at k
    refine v115_0 (c114 (by omega) ⟨rfl, brK_b (fun h1 => ?_) (fun h1 => brK_d (fun h2 => ?_) (fun h2 => ?_))⟩)
    · rw [h1] at k; exact k S (agr_r S)
    · rw [h1, h2] at k
      unfold ipB at h1
      rw [Bool.and_eq_true] at h1
      have g1 := of_decide_eq_true h1.1
      have g2 := of_decide_eq_true h1.2
      rw [(d1024 (by omega)).2, (d1024 (by omega)).1]
      refine c86 (b := b) (S := S) (a := 2) (n := ix x / 1024) (x := ix x % 1024) (set := 0) (by omega) hI (agr_r S) (by decide) (by omega) (by omega) (fun N' n' v hN' hho h43 h45 hv => ⟨rfl, ?_⟩)
      have en := hho.2.1 (by decide)
      subst en
      rw [ofI hv]
      exact planC (b := b) (S := S) (a := 2) (B := b1N (ix x % 1024)) (set := 0) (by omega) (by omega) h43 h45 (k N' (frp_pC hN'))
    · rw [h1, h2] at k; exact k S (agr_r S)
  · unfold quiV at k
    refine v241_0 (c240 (by omega) ⟨rfl, brK_b (fun h1 => ?_) (fun h1 => brK_d (fun h2 => ?_) (fun h2 => ?_))⟩)
    · rw [h1] at k; exact k N hA
    · rw [h1, h2] at k
      unfold ipB at h1
      rw [Bool.and_eq_true] at h1
      have g1 := of_decide_eq_true h1.1
      have g2 := of_decide_eq_true h1.2
      obtain ⟨hB, hB2⟩ := b1_ok (x := ix x % 1024) (by omega)
      have hw := of_decide_eq_true h2
      rw [(d1024 (by omega)).2, (d1024 (by omega)).1]
      have hA0 : agr (pC b) S (sI N 67 38 2) := agr_sI rfl hA
      have hso : soR 2 0 (gI (sI N 67 38 2) 67 37) := ⟨fun e => absurd e (by decide), fun e => absurd e (by decide)⟩
      refine c231 (by omega) (by omega) ⟨rfl, c232 (b := b) (S := S) (a := 2) (B := b1N (ix x % 1024)) (set := 0) (so := gI (sI N 67 38 2) 67 37) (n := ix x / 1024) (by omega) hI hA0 (by decide) hB hB2 (by omega) (by omega) (gI_s ..) rfl hso (fun N3 hN3 hQ hlt => ⟨rfl, ?_⟩)⟩
      have hA3 : agr (pC b) S N3 := agr_t hA0 (frk_pC hN3)
      have l0 := left0 (hlt 0 (by omega)) hs0
      have eo : offK 2 (ix x / 1024) 0 = ((ix x / 1024 : Nat) : Int) - (0 : Nat) := rfl
      have bd := wt_bd (b := b) (S := S) (a := 2) (set := 0) hB2 (by omega : ix x / 1024 ≤ 12) 0 (st0 S)
      have pr := planR (b := b) (S := S) (d := d) (f := f) (w := w) (v := -(Int32.ofInt (wtK b S 2 (b1N (ix x % 1024)) 0 (ix x / 1024) 0 (st0 S)))) (N := N3) (a := 2) (B := b1N (ix x % 1024)) (set := 0) (so := gI (sI N 67 38 2) 67 37) (n := ix x / 1024) (by omega) hI hA3 (by decide) hB hB2 (by omega) hw hQ hso hlt (fun q => ?_) k
      · refine ⟨fun z => ⟨fun y => (pr.1 z).1 y, fun y => ?_⟩, fun z => c237s (S := S) (by omega) hI hA3 ⟨rfl, ?_⟩⟩
        · exact (pr.1 z).2 y
        · have ev : (nI (ix x / 1024) - gI N3 87 (st0 S) : Int32) = -(Int32.ofInt (wtK b S 2 (b1N (ix x % 1024)) 0 (ix x / 1024) 0 (st0 S))) := by
            have n1 := nI_toInt (n := ix x / 1024) (by omega)
            have o1 : (Int32.ofInt (wtK b S 2 (b1N (ix x % 1024)) 0 (ix x / 1024) 0 (st0 S))).toInt = wtK b S 2 (b1N (ix x % 1024)) 0 (ix x / 1024) 0 (st0 S) := Int32.toInt_ofInt_of_le (by omega) (by omega)
            apply i_eq.mpr
            rw [sub_toInt (by rw [n1, l0]; omega) (by rw [n1, l0]; omega), Int32.toInt_neg, o1, n1, l0, Int.bmod_eq_of_le (by omega) (by omega)]
            omega
          rw [ev]
          exact pr.2 z
      · have := k N3 hA3
        unfold plvK at this
        rw [decide_eq_true q] at this
        exact this
    · rw [h1, h2] at k; exact k N hA
end PLANS
