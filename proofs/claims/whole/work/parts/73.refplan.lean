/-! THE REFERENCE'S PLANS -/
def frk : Nat → Nat → Bool := fun r j => nin [84, 85, 87] r && !(Nat.beq r 67 && (Nat.ble 37 j && Nat.ble j 39))
theorem frk_pC {b : Bool} {N N' : M2} (h : agr frk N N') : agr (pC b) N N' := by
  refine agr_m (fun r j hq => ?_) h
  unfold frk
  have h1 : nin [84, 85, 87] r = true := nin_c (q := pC b) (fun a ha j => by
    simp only [List.mem_cons, List.not_mem_nil, or_false] at ha
    rcases ha with e | e | e <;> subst e <;> rfl) r j hq
  rw [h1]
  cases hb : (Nat.beq r 67 && (Nat.ble 37 j && Nat.ble j 39)) with
  | false => rfl
  | true =>
    rw [Bool.and_eq_true, Bool.and_eq_true] at hb
    have e1 := Nat.eq_of_beq_eq_true hb.1
    have e2 := Nat.le_of_ble_eq_true hb.2.1
    have e3 := Nat.le_of_ble_eq_true hb.2.2
    subst e1
    have : j = 37 ∨ j = 38 ∨ j = 39 := by omega
    rcases this with e | e | e <;> subst e
    · exact absurd (show slot67 37 = true from hq) (by decide)
    · exact absurd (show slot67 38 = true from hq) (by decide)
    · exact absurd (show slot67 39 = true from hq) (by decide)
theorem frk_s {l : List Nat} (hl : ∀ a, a ∈ l → nin [84, 85, 87] a = false) {N N' : M2} (h : agr (fr l) N N') : agr frk N N' := fr_m (q := frk) (fun a ha j => by unfold frk; rw [hl a ha]; rfl) h
def offK (a n k : Nat) : Int := bif Nat.beq a 2 then (n : Int) - k else bif Nat.beq a 0 && Nat.blt k n then -1 else 0
def soR (a : Nat) (set so : Int32) : Prop := (a = 0 → ix so < 16 ∧ set = (1 : Int32) <<< (so &&& 31)) ∧ (a = 1 → so = set)
def QrK (a n : Nat) (so : Int32) (N : M2) : Prop := gI N 67 38 = nI a ∧ gI N 67 37 = so ∧ gI N 67 39 = nI n
theorem QrK_a {a n : Nat} {so : Int32} {l : List Nat} {N N' : M2} (hl : nin l 67 = true) (h : agr (fr l) N N') (k : QrK a n so N) : QrK a n so N' :=
  ⟨(h 67 38 hl).1.trans k.1, (h 67 37 hl).1.trans k.2.1, (h 67 39 hl).1.trans k.2.2⟩
def LtK (b : Bool) (S : M2) (a B : Nat) (set : Int32) (n k : Nat) (N : M2) : Prop := ∀ s, s < 256 → (gI N 87 (k * 256 + s)).toInt = wtK b S a B set n k s + offK a n k
theorem beq_t {a c : Nat} (h : a = c) : Nat.beq a c = true := by rw [h]; exact Nat.beq_refl c
theorem beq_f {a c : Nat} (h : a ≠ c) : Nat.beq a c = false := by
  cases hb : Nat.beq a c with
  | false => rfl
  | true => exact absurd (Nat.eq_of_beq_eq_true hb) h
section REFPLAN
variable {d : Nat} {b : Bool} {S : M2} {a B n : Nat} {set so : Int32}
theorem wt1_nn (hB : ∃ r, r < 10 ∧ B.testBit r = true) (hn : n ≤ 12) : ∀ m k s, k + m = n → 0 ≤ wtK b S 1 B set n k s
  | 0, k, s, h => by
    have : k = n := by omega
    subst this
    rw [wt_n]
    exact Int.le_refl _
  | m + 1, k, s, h => by
    obtain ⟨r, h1, h2, h3⟩ := wt_at (b := b) (S := S) (a := 1) (set := set) hB hn (k := k) (by omega) s
    have ih := wt1_nn hB hn m (k + 1) (nxK b S k s r) (by omega)
    have e : ptK b S 1 set n k s r = (btN set (sK b S k s r) : Int) := rfl
    rw [← h3, e]
    omega
/-- what the reference holds is never below -1, and not below 0 but for what is sought -/
theorem off_nn (ha : a ≤ 2) (hB : ∃ r, r < 10 ∧ B.testBit r = true) (hn : n ≤ 12) {k s : Nat} (hk : k ≤ n) : -1 ≤ wtK b S a B set n k s + offK a n k ∧ (a ≠ 0 → 0 ≤ wtK b S a B set n k s + offK a n k) := by
  have : a = 0 ∨ a = 1 ∨ a = 2 := by omega
  unfold offK
  rcases this with e | e | e
  · subst e
    have := wt0_01 (b := b) (S := S) (set := set) hB hn (n - k) k s (by omega)
    refine ⟨?_, fun h => absurd rfl h⟩
    show -1 ≤ wtK b S 0 B set n k s + (bif Nat.blt k n then -1 else 0)
    cases Nat.blt k n <;> simp only [cond_true, cond_false] <;> omega
  · subst e
    have := wt1_nn (b := b) (S := S) (set := set) hB hn (n - k) k s (by omega)
    show -1 ≤ wtK b S 1 B set n k s + 0 ∧ (1 ≠ 0 → 0 ≤ wtK b S 1 B set n k s + 0)
    omega
  · subst e
    have := wvK_bd (b := b) (S := S) (a := 2) (set := set) (n := n) hB (n - k) k s (by omega)
    have e : wtK b S 2 B set n k s = wvK b S 2 B set n (n - k) k s := rfl
    rw [e]
    show -1 ≤ wvK b S 2 B set n (n - k) k s + ((n : Int) - k) ∧ (2 ≠ 0 → 0 ≤ wvK b S 2 B set n (n - k) k s + ((n : Int) - k))
    omega
theorem m256 {k m l : Nat} (hk : k < 100) (hm : m < 100) (hl : l < 100) : ix ((256 * nI k + 16 * nI m) + nI l) = k * 256 + (m * 16 + l) := by
  have e1 : (256 * nI k : Int32) = nI (256 * k) := nI_mul 256 k
  have e2 : (16 * nI m : Int32) = nI (16 * m) := nI_mul 16 m
  rw [e1, e2, nI_add, nI_add, ix_n (by omega)]
  omega
theorem c237 {f : Int32 → Mm → Prop} {k m l : Nat} {N : M2} (hd : 1 ≤ d) (hk : k ≤ 12) (hm : m < 16) (hl : l < 16) (q : f (gI N 87 (k * 256 + (m * 16 + l))) (FR b, N)) : WP d 107 237 0 [.ref 67, .int (nI k), .int (nI m), .int (nI l)] [] 107 (FR b, N) (rI f) := by
  obtain ⟨d, rfl⟩ := ex1 hd
  have e := m256 (k := k) (m := m) (l := l) (by omega) (by omega) (by omega)
  refine v237_0 (iK_i (by rw [e]; omega) ?_)
  rw [e]
  exact q
theorem c236 {f : Int32 → Mm → Prop} {k s r : Nat} {N : M2} (hd : 3 ≤ d) (hI : INV b S) (hA : agr (pC b) S N) (ha : a ≤ 2) (hn : n ≤ 12) (hk : k < n) (hQ : QrK a n so N) (hso : soR a set so) (q : ∀ c : Int32, (a = 0 → (k + 1 < n ∧ c = 0) ∨ (k + 1 = n ∧ ((c = 0 ∧ btN set (sK b S k s r) = 1) ∨ (c = -1 ∧ btN set (sK b S k s r) = 0)))) → (a = 1 → c.toInt = ptK b S a set n k s r) → (a = 2 → c.toInt = ptK b S a set n k s r + 1) → f c (FR b, N)) : WP d 107 236 0 [.ref 67, .int (nI k), .int (nI (sK b S k s r)), .int (nI (s % 16))] [] 107 (FR b, N) (rI f) := by
  obtain ⟨d, rfl⟩ := ex1 (e := 2) hd
  have a0 : nI a = 0 ↔ a = 0 := nI_eq (a := a) (b := 0) (by omega) (by decide)
  have a1 : nI a = 1 ↔ a = 1 := nI_eq (a := a) (b := 1) (by omega) (by decide)
  have hsk := @sK_lt b S k s r
  have hbt := btN_1 set (sK b S k s r)
  refine v236_0 ?_
  rw [hQ.1, hQ.2.1, hQ.2.2]
  refine ⟨fun z => ⟨fun y => ?_, fun y => ?_⟩, fun z => ⟨fun z1 => ?_, fun z1 => ?_⟩⟩
  · have z := a0.mp z
    have e1 : nI n - 1 = nI (n - 1) := nI_sub (b := 1) (by omega)
    rw [e1, nI_leI (by omega) (by omega)] at y
    obtain ⟨hs1, hs2⟩ := hso.1 z
    have eb : btN set (sK b S k s r) = bif decide (nI (sK b S k s r) = so) then 1 else 0 := by
      unfold btN
      rw [hs2, bit1' hs1 (by rw [ix_n (by omega)]; exact hsk)]
      cases decide (nI (sK b S k s r) = so) <;> rfl
    refine brK_d (fun w => q 0 (fun _ => Or.inr ⟨by omega, Or.inl ⟨rfl, ?_⟩⟩) (fun e => by omega) (fun e => by omega)) (fun w => q (-1) (fun _ => Or.inr ⟨by omega, Or.inr ⟨rfl, ?_⟩⟩) (fun e => by omega) (fun e => by omega))
    · rw [eb, w]; rfl
    · rw [eb, w]; rfl
  · have z := a0.mp z
    have e1 : nI n - 1 = nI (n - 1) := nI_sub (b := 1) (by omega)
    rw [e1, nI_leI (by omega) (by omega)] at y
    exact q 0 (fun _ => Or.inl ⟨by omega, rfl⟩) (fun e => by omega) (fun e => by omega)
  · have z := a1.mp z1
    have e0 : a ≠ 0 := by omega
    have es := hso.2 z
    refine q _ (fun e => absurd e e0) (fun _ => ?_) (fun e => by omega)
    rw [es]
    have eb : ((set >>> (nI (sK b S k s r) &&& 31)) &&& 1 : Int32) = nI (btN set (sK b S k s r)) := btN_e set _
    rw [eb, nI_toInt (by omega)]
    unfold ptK
    rw [beq_f (show a ≠ 2 by omega), beq_f e0]
    rfl
  · have z : a = 2 := by
      have h0 := mt a0.mpr z
      have h1 := mt a1.mpr z1
      omega
    refine c234 (S := S) (by omega) hI hA (by omega) ⟨rfl, c226 (S := S) (s := (nI (s / 16), hgK S k, nI (s % 16), hrK S k)) (by omega) hI hA rfl rfl ⟨rfl, ?_⟩⟩
    have el : lmS S (nI (s / 16), hgK S k, nI (s % 16), hrK S k) (nI (sK b S k s r)) = lpK b S k s r := rfl
    have ep : ptK b S a set n k s r = bif lpK b S k s r then -1 else 0 := by unfold ptK; rw [beq_t z]; rfl
    rw [el]
    refine brK_b (fun y => q 1 (fun e => by omega) (fun e => by omega) (fun _ => ?_)) (fun y => q 0 (fun e => by omega) (fun e => by omega) (fun _ => ?_))
    · rw [ep, y]; rfl
    · rw [ep, y]; rfl
theorem c233 {f : Int32 → Mm → Prop} {k m l r : Nat} {N : M2} (hd : 5 ≤ d) (hI : INV b S) (hA : agr (pC b) S N) (ha : a ≤ 2) (hB2 : ∃ r, r < 10 ∧ B.testBit r = true) (hn : n ≤ 12) (hk : k < n) (hm : m < 16) (hl : l < 16) (hr : r < 10) (hQ : QrK a n so N) (hso : soR a set so) (hlt : LtK b S a B set n (k + 1) N) (q : ∀ N' v, agr (fr [84, 85]) N N' → v.toInt = ptK b S a set n k (m * 16 + l) r + wtK b S a B set n (k + 1) (nxK b S k (m * 16 + l) r) + offK a n k → f v (FR b, N')) : WP d 107 233 0 [.ref 67, .int (nI k), .int (nI m), .int (nI l), .int (nI r), U, U, U] [] 107 (FR b, N) (rI f) := by
  obtain ⟨d, rfl⟩ := ex1 (e := 4) hd
  have hL : LawR b S := hI.2.2.2.2.2.2.2.2.2
  have e6 : gI S 68 6 = tmV S := hI.2.1.2 6 (by decide)
  have es1 : (m * 16 + l) / 16 = m := by omega
  have es2 : (m * 16 + l) % 16 = l := by omega
  refine v233_0 (c234 (S := S) (by omega) hI hA (by omega) ⟨rfl, c235 (S := S) (by omega) hI hA (by omega) ⟨rfl, c215 (S := S) (by omega) hL hA (fun N1 hN1 => ⟨rfl, ?_⟩)⟩⟩)
  have esK : sayV b S (nI m, hgK S k, nI l, hrK S k) (tmV S) (nI r) = nI (sK b S k (m * 16 + l) r) := by
    unfold sK
    rw [es1, es2]
    exact (n_ix _).symm
  rw [e6, esK]
  have hA1 : agr (pC b) S N1 := agr_t hA (frk_pC (frk_s (by decide) hN1))
  have hQ1 := QrK_a (l := [84, 85]) rfl hN1 hQ
  have hsk := @sK_lt b S k (m * 16 + l) r
  have hnx := @nxK_lt b S k (m * 16 + l) r
  have c6 := c236 (b := b) (S := S) (d := d) (a := a) (n := n) (set := set) (so := so) (k := k) (s := m * 16 + l) (r := r) (N := N1) (f := fun v8 N7 => N7.1 = FR b ∧ brK (0 ≤ v8) (WP d 107 237 0 [.ref 67, .int (nI k + 1), .int (((nI m + nI (sK b S k (m * 16 + l) r)) + nI r) - ((nI m + nI (sK b S k (m * 16 + l) r)) + nI r) / 16 * 16), .int (nI (sK b S k (m * 16 + l) r))] [] 107 (FR b, N7.2) (rI (fun v10 N9 => N9.1 = FR b ∧ (brK (0 ≤ v10) (rI f (some (.int (v8 + v10))) (FR b, N9.2)) (rI f (some (.int (-1))) (FR b, N9.2)))))) (brK (0 ≤ ((-1) : Int32)) (rI f (some (.int (v8 + (-1)))) (FR b, N7.2)) (rI f (some (.int (-1))) (FR b, N7.2)))) (by omega) hI hA1 ha hn hk hQ1 hso
  rw [es2] at c6
  refine c6 (fun c h0 h1 h2 => ⟨rfl, ?_⟩)
  have eM : (nI m + nI (sK b S k (m * 16 + l) r) + nI r - (nI m + nI (sK b S k (m * 16 + l) r) + nI r) / 16 * 16 : Int32) = nI ((m + sK b S k (m * 16 + l) r + r) % 16) := by
    rw [nI_add, nI_add]
    exact nI_md (b := 16) (by omega) (by decide)
  have enx : nxK b S k (m * 16 + l) r = (m + sK b S k (m * 16 + l) r + r) % 16 * 16 + sK b S k (m * 16 + l) r := by
    unfold nxK
    rw [es1]
  have hlt1 := hlt (nxK b S k (m * 16 + l) r) hnx
  have on := off_nn (b := b) (S := S) (a := a) (B := B) (set := set) ha hB2 hn (k := k + 1) (s := nxK b S k (m * 16 + l) r) (by omega)
  have bd := wt_bd (b := b) (S := S) (a := a) (set := set) hB2 hn (k + 1) (nxK b S k (m * 16 + l) r)
  have pb := ptK_bd b S a set n k (m * 16 + l) r
  have ob : -12 ≤ offK a n (k + 1) ∧ offK a n (k + 1) ≤ 12 := by
    unfold offK
    cases Nat.beq a 2 <;> simp only [cond_true, cond_false] <;> (try omega)
    cases (Nat.beq a 0 && Nat.blt (k + 1) n) <;> simp only [cond_true, cond_false] <;> omega
  have m1 : ((-1 : Int32)).toInt = -1 := rfl
  have w01 := fun e : a = 0 => by subst e; exact wt0_01 (b := b) (S := S) (set := set) hB2 hn (n - (k + 1)) (k + 1) (nxK b S k (m * 16 + l) r) (by omega)
  -- the three kinds
  have lf : ∀ (g : Int32 → Mm → Prop), (∀ v : Int32, v.toInt = wtK b S a B set n (k + 1) (nxK b S k (m * 16 + l) r) + offK a n (k + 1) → g v (FR b, N1)) → WP d 107 237 0 [.ref 67, .int (nI k + 1), .int (((nI m + nI (sK b S k (m * 16 + l) r)) + nI r) - ((nI m + nI (sK b S k (m * 16 + l) r)) + nI r) / 16 * 16), .int (nI (sK b S k (m * 16 + l) r))] [] 107 (FR b, N1) (rI g) := by
    intro g hg
    rw [eM, nI_1]
    refine c237 (by omega) (by omega) (by omega) hsk (hg _ ?_)
    rw [← enx, agr_nI hN1 rfl]
    exact hlt1
  have a012 : a = 0 ∨ a = 1 ∨ a = 2 := by omega
  rcases a012 with e | e | e
  · -- what is sought
    have ep : ptK b S a set n k (m * 16 + l) r = bif Nat.blt (k + 1) n then 0 else (btN set (sK b S k (m * 16 + l) r) : Int) := by subst e; rfl
    have eo : offK a n k = -1 := by subst e; show (bif Nat.blt k n then -1 else 0) = (-1 : Int); rw [blt_i.mpr hk]; rfl
    have eo1 : offK a n (k + 1) = bif Nat.blt (k + 1) n then -1 else 0 := by subst e; rfl
    have w01 := w01 e
    rcases h0 e with ⟨hlt2, hc⟩ | ⟨hkn, hc⟩
    · rw [blt_i.mpr hlt2] at ep eo1
      have ep : ptK b S a set n k (m * 16 + l) r = 0 := ep
      have eo1 : offK a n (k + 1) = -1 := eo1
      subst hc
      refine brK_t (by decide) (lf _ (fun v hv => ⟨rfl, ⟨fun y => ?_, fun y => ?_⟩⟩))
      · rw [i_le, z_toInt, hv] at y
        refine q N1 _ hN1 ?_
        rw [Int32.zero_add, hv]
        omega
      · rw [i_le, z_toInt, hv] at y
        refine q N1 _ hN1 ?_
        rw [m1]
        omega
    · rw [blt_f.mpr (by omega)] at ep eo1
      have ep : ptK b S a set n k (m * 16 + l) r = (btN set (sK b S k (m * 16 + l) r) : Int) := ep
      have eo1 : offK a n (k + 1) = 0 := eo1
      have ew : wtK b S a B set n (k + 1) (nxK b S k (m * 16 + l) r) = 0 := by rw [hkn, wt_n]
      rcases hc with ⟨hc, hb⟩ | ⟨hc, hb⟩
      · subst hc
        refine brK_t (by decide) (lf _ (fun v hv => ⟨rfl, ⟨fun y => ?_, fun y => ?_⟩⟩))
        · refine q N1 _ hN1 ?_
          rw [Int32.zero_add, hv]
          omega
        · rw [i_le, z_toInt, hv] at y
          omega
      · subst hc
        refine brK_f (by decide) (brK_f (by decide) (q N1 _ hN1 ?_))
        rw [m1]
        omega
  · -- of a set
    have hc := h1 e
    have eo : offK a n k = 0 := by subst e; rfl
    have eo1 : offK a n (k + 1) = 0 := by subst e; rfl
    have pp : 0 ≤ ptK b S a set n k (m * 16 + l) r := by
      subst e
      show (0 : Int) ≤ (btN set (sK b S k (m * 16 + l) r) : Int)
      omega
    have on2 := on.2 (by omega)
    refine brK_t (by rw [i_le, z_toInt, hc]; exact pp) (lf _ (fun v hv => ⟨rfl, brK_t (by rw [i_le, z_toInt, hv]; exact on2) (q N1 _ hN1 ?_)⟩))
    rw [add_toInt (by rw [hc, hv]; omega) (by rw [hc, hv]; omega), hc, hv]
    omega
  · -- no lump
    have hc := h2 e
    have eo : offK a n k = (n : Int) - k := by subst e; rfl
    have eo1 : offK a n (k + 1) = (n : Int) - (k + 1 : Nat) := by subst e; rfl
    have on2 := on.2 (by omega)
    refine brK_t (by rw [i_le, z_toInt, hc]; omega) (lf _ (fun v hv => ⟨rfl, brK_t (by rw [i_le, z_toInt, hv]; exact on2) (q N1 _ hN1 ?_)⟩))
    rw [add_toInt (by rw [hc, hv]; omega) (by rw [hc, hv]; omega), hc, hv]
    omega
end REFPLAN
