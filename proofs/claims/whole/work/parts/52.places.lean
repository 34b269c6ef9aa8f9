/-! places -/
def plW (b : Bool) (S : M2) (rem : Nat → Int32) (sh n : Nat) : Nat → Nat → Int32 → Int32 → Int32
  | 0, _, p, _ => p
  | m + 1, k, p, u => bif rg (byV S sh (nI k)) (cnS S) && decide (bitV u (byV S sh (nI k)) = 0) then plW b S rem sh n m (k + 1) (p + pcV b S rem (ix (byV S sh (nI k))) (nI k) n) (u ||| ((1 : Int32) <<< (byV S sh (nI k) &&& 31))) else p
def plcV (b : Bool) (S : M2) (x y : Int32) : Int32 := bif rg x 6 && rg y 201 then (bif isRowV S (ix x) 0 then plW b S rmZ (ix x) (ix y) (ix (gI S (shC (ix x)) 3)) 0 0 0 else refV S (ix x)) else -1
theorem bitV_01 (x y : Int32) : bitV x y = 0 ∨ bitV x y = 1 := by
  obtain ⟨j, hj, h⟩ := pk_andE (x >>> (y &&& 31)) (m := 1) 1 rfl
  unfold bitV
  rw [h]
  have : j = 0 ∨ j = 1 := by omega
  rcases this with e | e <;> subst e
  · exact Or.inl rfl
  · exact Or.inr rfl
theorem bitV_ne (x y : Int32) : bitV x y = 1 ↔ ¬ bitV x y = 0 := by
  rcases bitV_01 x y with h | h <;> rw [h] <;> decide
section PLACES
variable {d : Nat} {b : Bool} {S : M2}
theorem P_places (hI : INV b S) {x y : Int32} : PAIR b S 121 258 [.ref 4, .int x, .int y, U, U, U, U, U] [.ref 67, .int x, .int y, U, U, U, U, U] := by
  have hc6 : cnS S ≤ 6 := hI.2.2.1.1
  have hnn : 0 ≤ (gI S 18 0).toInt := by have := ix_t (gI S 18 0); unfold cnS at hc6; omega
  refine PAIR_ro hI (plcV b S x y) (fun d hd f k => ?_) (fun N hA d hd f k => ?_)
  · unfold plcV at k
    refine v121_0 (c18 (by omega) (fun h => ⟨rfl, ?_⟩) (fun h => ⟨rfl, c65 (by omega) ⟨rfl, brK_b (fun h2 => ?_) (fun h2 => ?_)⟩⟩))
    · rw [h] at k; exact k S (agr_r S)
    · rw [h, h2] at k; exact k S (agr_r S)
    · rw [h, h2] at k
      have hi := rg_tt h
      have hk := sh_kd _ hi
      have hy := rg_tt h2
      refine oK_i hk.2.1 hk.1 (c19 (by omega) hi ⟨rfl, brK_b (fun h5 => oK_i hk.2.1 hk.1 (c66 (by omega) hi ⟨rfl, ?_⟩)) (fun h5 => c67n (S := S) (by omega) hI (by omega) (agr_r S) (fun N' hN' hT => ⟨rfl, ?_⟩))⟩)
      · rw [h5] at k; exact k S (agr_r S)
      · rw [h5] at k
        have hA : agr (pC b) S N' := frt_pC hN'
        have k2 : f (plW b S rmZ (ix x) (ix y) (ix (gI S (shC (ix x)) 3)) 0 0 0) (FR b, N') := k N' hA
        have h60 := (row_of hI hi h5).2.2.1
        have e3 : gI N' (shC (ix x)) 3 = gI S (shC (ix x)) 3 := agr_nI hA (shf_k b _ hi 3).1
        have l : ∀ m i p u (u7 : Value), i + m = ix (gI S (shC (ix x)) 3) → f (plW b S rmZ (ix x) (ix y) m i p u) (FR b, N') → WP (d + 1) 107 121 47 [.ref 4, .int x, .int y, .ref (shC (ix x)), .int p, .int u, .int (nI i), u7] [] 107 (FR b, N') (rI f) := by
          intro m
          induction m with
          | zero =>
            intro i p u u7 hm q
            refine v121_47 (oK_i hk.2.1 hk.1 (brK_t ?_ q))
            rw [e3, ← n_ix (gI S (shC (ix x)) 3), ← hm, i_le]
            exact Int.le_refl _
          | succ m ih =>
            intro i p u u7 hm q
            have i1 := nI_toInt (n := i) (by omega)
            have z1 := ix_t (gI S (shC (ix x)) 3)
            have h60' : ix (gI N' (shC (ix x)) 3) ≤ 60 := by rw [e3]; exact h60
            unfold plW at q
            refine v121_47 (oK_i hk.2.1 hk.1 (brK_f (by rw [e3, i_le]; omega) (oK_i hk.2.1 hk.1 (c70 (by omega) hi h60' ⟨rfl, ?_⟩))))
            rw [byV_a hA hi]
            generalize byV S (ix x) (nI i) = s at q
            refine c27 (by omega) (by rw [agr_nI (p := pC b) hA rfl]; exact hnn) ⟨rfl, ?_⟩
            rw [agr_nI (p := pC b) hA rfl]
            refine brK_b (fun z => ?_) (fun z => brK_d (fun z2 => ?_) (fun z2 => ?_))
            · have z : rg s (cnS S) = false := z
              rw [z] at q; exact q
            · have z : rg s (cnS S) = true := z
              have z2 : decide (bitV u s = 0) = true := z2
              rw [z, z2] at q
              refine c120 (S := S) (by omega) hA (by have := rg_tt z; omega) (by omega) hT ⟨rfl, ?_⟩
              rw [nI_1]
              exact ih (i + 1) _ _ _ (by omega) q
            · have z : rg s (cnS S) = true := z
              have z2 : decide (bitV u s = 0) = false := z2
              rw [z, z2] at q; exact q
        exact l _ 0 0 0 _ (by omega) k2
  · unfold plcV at k
    refine v258_0 (c183 (by omega) ⟨rfl, brK_b (fun h => ?_) (fun h => c220 (by omega) ⟨rfl, brK_b (fun h2 => ?_) (fun h2 => ?_)⟩)⟩)
    · rw [h] at k; exact k N hA
    · rw [h, h2] at k; exact k N hA
    · rw [h, h2] at k
      have hi := rg_tt h
      have hy := rg_tt h2
      refine c221 (S := S) (by omega) hI hA hi (by decide) ⟨rfl, ?_⟩
      cases h5 : isRowV S (ix x) 0 with
      | false =>
        rw [h5] at k
        exact brK_f (rfV_neg S _) (k N hA)
      | true =>
        rw [h5] at k
        refine brK_t (show (0 : Int32) ≤ 0 by decide) (c256 (S := S) (rem := rmZ) (by omega) hI hA (by omega) (fun z => absurd z (by decide)) (fun _ => rfl) (fun N' hN' hh => ⟨rfl, ?_⟩))
        have hA1 := agr_t hA (fr91 (b := b) hN')
        have k2 : f (plW b S rmZ (ix x) (ix y) (ix (gI S (shC (ix x)) 3)) 0 0 0) (FR b, N') := k N' hA1
        obtain ⟨_, _, h60, h104, _⟩ := row_of hI hi h5
        have e104 : gI N' 104 (ix x) = gI S (shC (ix x)) 3 := (agr_nI hA1 rfl).trans h104
        have l : ∀ m i p u (u3 u7 : Value), i + m = ix (gI S (shC (ix x)) 3) → f (plW b S rmZ (ix x) (ix y) m i p u) (FR b, N') → WP (d + 1) 107 258 44 [.ref 67, .int x, .int y, u3, .int p, .int u, .int (nI i), u7] [] 107 (FR b, N') (rI f) := by
          intro m
          induction m with
          | zero =>
            intro i p u u3 u7 hm q
            refine v258_44 (iK_i hi (brK_t ?_ q))
            rw [e104, ← n_ix (gI S (shC (ix x)) 3), ← hm, i_le]
            exact Int.le_refl _
          | succ m ih =>
            intro i p u u3 u7 hm q
            have i1 := nI_toInt (n := i) (by omega)
            have z1 := ix_t (gI S (shC (ix x)) 3)
            unfold plW at q
            refine v258_44 (iK_i hi (brK_f (by rw [e104, i_le]; omega) (c224 (S := S) (w := 0) (by omega) hI hA1 hi h5 (rg_t.mpr (by rw [ix_n (by omega)]; omega)) ⟨rfl, ?_⟩)))
            generalize byV S (ix x) (nI i) = s at q
            have e2 : gI N' 67 2 = gI S 18 0 := by rw [cnt_e hI hA1]; exact n_ix _
            refine c190 (by omega) (by rw [e2]; exact hnn) ⟨rfl, ?_⟩
            rw [e2]
            refine brK_b (fun z => ?_) (fun z => ⟨fun z2 => ?_, fun z2 => ?_⟩)
            · have z : rg s (cnS S) = false := z
              rw [z] at q; exact q
            · have z : rg s (cnS S) = true := z
              have z2 : bitV u s = 1 := z2
              rw [z, z2] at q; exact q
            · have z : rg s (cnS S) = true := z
              have z2 : ¬ bitV u s = 1 := z2
              have z3 : bitV u s = 0 := (bitV_01 u s).resolve_right z2
              have hs := rg_tt z
              rw [z, z3] at q
              have q2 : f (plW b S rmZ (ix x) (ix y) m (i + 1) (p + pcV b S rmZ (ix s) (nI i) (ix y)) (u ||| ((1 : Int32) <<< (s &&& 31)))) (FR b, N') := q
              dsimp only
              rw [e68 hI hA1 (by decide)]
              unfold pcV slV at q2
              refine brK_d (fun z4 => ?_) (fun z4 => iK_i (by omega) (iK_i (by omega) ?_))
              · rw [z4] at q2
                rw [nI_1]
                have e : p + (bif true then 0 else htV b S rmZ (ix s) (ix y)) * gI S 20 (ix s) = p := by
                  show p + 0 * gI S 20 (ix s) = p
                  rw [Int32.zero_mul, Int32.add_zero]
                rw [e] at q2
                exact ih (i + 1) _ _ _ _ (by omega) q2
              · rw [z4] at q2
                rw [nI_1, (vil_e hI hA1 (by omega)).2.1, hh _ hs, Int32.mul_comm]
                exact ih (i + 1) _ _ _ _ (by omega) q2
        exact l _ 0 0 0 _ _ (by omega) k2
end PLACES
/-! when -/
def wnF (b : Bool) (S : M2) (st i : Nat) : Int32 := bif decide (gI S 5 5 < gI S 21 st) then 0 else bitV (gI S 19 st) (sdn b S rmZ i)
def whB (g : Nat → Int32) (w : Nat) : Nat → Nat → Int32 → Int32 → Int32 × Int32
  | 0, _, bs, ms => (bs, ms)
  | m + 1, o, bs, ms => bif decide (sm (fun j => g (o + j)) w ≤ ms) then whB g w m (o + 1) bs ms else whB g w m (o + 1) (nI o) (sm (fun j => g (o + j)) w)
def whnV (b : Bool) (S : M2) (x y w : Int32) : Int32 := bif rg x (cnS S) && (inV y 1 24 && rg w 2) then (bif decide (w = 0) then (whB (wnF b S (ix x)) (ix y) (49 - ix y) 0 0 (-1)).1 else (whB (wnF b S (ix x)) (ix y) (49 - ix y) 0 0 (-1)).2) else -1
theorem inV_1 {v hi : Int32} {n : Nat} (hh : hi = nI n) (hn : n < 2147483648) (h : inV v 1 hi = true) : 1 ≤ ix v ∧ ix v ≤ n := by
  unfold inV at h
  rw [Bool.and_eq_true] at h
  have h1 := of_decide_eq_true h.1
  have h2 := of_decide_eq_true h.2
  have v1 := ix_t v
  have n1 := nI_toInt (n := n) (by omega)
  subst hh
  rw [i_le, one_toInt] at h1
  rw [i_le] at h2
  omega
section WHEN
variable {d : Nat} {b : Bool} {S : M2}
theorem c128 {f : Int32 → Mm → Prop} {x t l : Int32} {i : Nat} {N : M2} (hd : 2 ≤ d) (hA : agr (pC b) S N) (hx : ix x < 6) (ht : t = mun b S rmZ i) (hl : l = gI S 5 5) (k : ∀ v, (v = 0 ∧ wnF b S (ix x) i = 0) ∨ (v = 1 ∧ wnF b S (ix x) i = 1) → f v (FR b, N)) : WP d 107 128 0 [.ref 18, .int x, .int t, .int l] [] 107 (FR b, N) (rI f) := by
  obtain ⟨d, rfl⟩ := ex1 (e := 1) hd
  subst ht hl
  have hw : wnF b S (ix x) i = bif decide (gI S 5 5 < gI S 21 (ix x)) then 0 else bitV (gI S 19 (ix x)) (sdn b S rmZ i) := rfl
  refine v128_0 (c15 (by omega) (by decide) (Or.inl rfl) ⟨rfl, ?_⟩)
  rw [atS hA rfl hx, mun_15]
  refine ⟨fun z => ?_, fun z => c15 (by omega) (by decide) (Or.inl rfl) ⟨rfl, ?_⟩⟩
  · have z : bitV (gI S 19 (ix x)) (sdn b S rmZ i) = 0 := z
    refine k 0 (Or.inl ⟨rfl, ?_⟩)
    rw [hw, z]
    cases decide (gI S 5 5 < gI S 21 (ix x)) <;> rfl
  · have z : ¬ bitV (gI S 19 (ix x)) (sdn b S rmZ i) = 0 := z
    have z2 := (bitV_ne _ _).mpr z
    rw [atS hA rfl hx]
    refine brK_d (fun q => k 0 (Or.inl ⟨rfl, ?_⟩)) (fun q => k 1 (Or.inr ⟨rfl, ?_⟩))
    · rw [hw, q]; rfl
    · rw [hw, q, z2]; rfl
theorem P_when (hI : INV b S) {x y w : Int32} : PAIR b S 127 261 [.ref 4, .int x, .int y, .int w, U, U, U, U, U] [.ref 67, .int x, .int y, .int w, U, U, U, U, U] := by
  have hc6 : cnS S ≤ 6 := hI.2.2.1.1
  have hnn : 0 ≤ (gI S 18 0).toInt := by have := ix_t (gI S 18 0); unfold cnS at hc6; omega
  refine PAIR_ro hI (whnV b S x y w) (fun d hd f k => ?_) (fun N hA d hd f k => ?_)
  · unfold whnV at k
    have e24 : ¬ y < 1 → ¬ 24 < y → inV y 1 24 = true := fun h h2 => by
      unfold inV
      rw [decide_eq_true (i_nlt h), decide_eq_true (i_nlt h2)]; rfl
    refine v127_0 (c27 (by omega) hnn ⟨rfl, brK_b (fun h => ?_) (fun h => ⟨fun h2 => ?_, fun h2 => ⟨fun h3 => ?_, fun h3 => c79 (by omega) ⟨rfl, brK_b (fun h4 => ?_) (fun h4 => ?_)⟩⟩⟩)⟩)
    · have h : rg x (cnS S) = false := h
      rw [h] at k; exact k S (agr_r S)
    · have h : rg x (cnS S) = true := h
      rw [h, show inV y 1 24 = false by unfold inV; rw [decide_eq_false (show ¬ (1 : Int32) ≤ y from fun q => by rw [i_lt] at h2; rw [i_le] at q; omega)]; rfl] at k; exact k S (agr_r S)
    · have h : rg x (cnS S) = true := h
      rw [h, show inV y 1 24 = false by unfold inV; rw [decide_eq_false (show ¬ y ≤ (24 : Int32) from fun q => by rw [i_lt] at h3; rw [i_le] at q; omega), Bool.and_false]] at k; exact k S (agr_r S)
    · have h : rg x (cnS S) = true := h
      rw [h, e24 h2 h3, h4] at k; exact k S (agr_r S)
    · have h : rg x (cnS S) = true := h
      have hy := inV_1 (n := 24) rfl (by decide) (e24 h2 h3)
      have hx := rg_tt h
      rw [h, e24 h2 h3, h4] at k
      refine c67n (S := S) (by omega) hI (by decide) (agr_r S) (fun N' hN' hT => ⟨rfl, ?_⟩)
      have hT : TrK b S rmZ 48 N' := hT
      have hA : agr (pC b) S N' := frt_pC hN'
      have k2 := k N' hA
      have inner : ∀ o bs ms, o + ix y ≤ 48 → (∀ u7 u8, brK (sm (fun j => wnF b S (ix x) (o + j)) (ix y) ≤ ms) (WP (d + 1) 107 127 47 [.ref 4, .int x, .int y, .int w, .int bs, .int ms, .int (nI (o + 1)), u7, u8] [] 107 (FR b, N') (rI f)) (WP (d + 1) 107 127 47 [.ref 4, .int x, .int y, .int w, .int (nI o), .int (sm (fun j => wnF b S (ix x) (o + j)) (ix y)), .int (nI (o + 1)), u7, u8] [] 107 (FR b, N') (rI f))) → ∀ m k, k + m = ix y → WP (d + 1) 107 127 63 [.ref 4, .int x, .int y, .int w, .int bs, .int ms, .int (nI o), .int (sm (fun j => wnF b S (ix x) (o + j)) k), .int (nI (o + k))] [] 107 (FR b, N') (rI f) := by
        intro o bs ms ho q m
        have eo : nI o + y = nI (o + ix y) := by rw [← n_ix y, nI_add, n_ix]
        induction m with
        | zero =>
          intro k hk
          have : k = ix y := by omega
          subst this
          refine v127_63 ?_
          rw [eo, nI_1]
          exact brK_t (by rw [i_le]; exact Int.le_refl _) (q _ _)
        | succ m ih =>
          intro k hk
          refine v127_63 ?_
          rw [eo]
          refine brK_f (fun z => ?_) (c15 (by omega) (by decide) (Or.inl rfl) ⟨rfl, ?_⟩)
          · have := (cnt_lt (n := o + k) (m := o + ix y) rfl (by omega) (by omega)).mp z
            omega
          · have e1 : ix (nI (o + k)) = o + k := ix_n (by omega)
            have et : atV N' 54 (nI (o + k)) = mun b S rmZ (o + k) := by
              unfold atV
              rw [rg_t.mpr (by rw [e1]; show o + k < 1000; omega), e1]
              exact hT.2 _ (by omega)
            refine c128 (S := S) (i := o + k) (by omega) hA (by omega) et (agr_nI hA rfl) (fun v hv => ⟨rfl, ?_⟩)
            have nx := ih (k + 1) (by omega)
            have es : sm (fun j => wnF b S (ix x) (o + j)) (k + 1) = sm (fun j => wnF b S (ix x) (o + j)) k + wnF b S (ix x) (o + k) := rfl
            rw [es] at nx
            rw [nI_1]
            rcases hv with ⟨hv, hw⟩ | ⟨hv, hw⟩ <;> subst hv <;> rw [hw] at nx
            · exact brK_t rfl nx
            · exact brK_f (by decide) nx
      have outer : ∀ m o bs ms, (o + m = 49 - ix y) → (f (bif decide (w = 0) then (whB (wnF b S (ix x)) (ix y) m o bs ms).1 else (whB (wnF b S (ix x)) (ix y) m o bs ms).2) (FR b, N')) → ∀ u7 u8, WP (d + 1) 107 127 47 [.ref 4, .int x, .int y, .int w, .int bs, .int ms, .int (nI o), u7, u8] [] 107 (FR b, N') (rI f) := by
        intro m
        induction m with
        | zero =>
          intro o bs ms ho q u7 u8
          have eo : nI o + y = nI (o + ix y) := by rw [← n_ix y, nI_add, n_ix]
          refine v127_47 ?_
          rw [eo]
          refine brK_t (by rw [show (48 : Int32) = nI 48 from rfl, nI_ltI (by decide) (by omega)]; omega) (brK_d (fun z => ?_) (fun z => ?_))
          · rw [z] at q; exact q
          · rw [z] at q; exact q
        | succ m ih =>
          intro o bs ms ho q u7 u8
          have eo : nI o + y = nI (o + ix y) := by rw [← n_ix y, nI_add, n_ix]
          refine v127_47 ?_
          rw [eo]
          refine brK_f (by rw [show (48 : Int32) = nI 48 from rfl, nI_ltI (by decide) (by omega)]; omega) ?_
          have := inner o bs ms (by omega) (fun u7 u8 => brK_d (fun z => ih (o + 1) bs ms (by omega) (by unfold whB at q; rw [z] at q; exact q) u7 u8) (fun z => ih (o + 1) _ _ (by omega) (by unfold whB at q; rw [z] at q; exact q) u7 u8)) (ix y) 0 (by omega)
          exact this
      exact outer (49 - ix y) 0 0 (-1) (by omega) k2 _ _
  · unfold whnV at k
    have e2 : gI N 67 2 = gI S 18 0 := by rw [cnt_e hI hA]; exact n_ix _
    refine v261_0 (c190 (by omega) (by rw [e2]; exact hnn) ⟨rfl, ?_⟩)
    rw [e2]
    refine brK_b (fun h => ?_) (fun h => c180 (by omega) ⟨rfl, brK_b (fun h2 => ?_) (fun h2 => c180n 1 (by omega) rfl (by decide) ⟨rfl, brK_b (fun h4 => ?_) (fun h4 => ?_)⟩)⟩)
    · have h : rg x (cnS S) = false := h
      rw [h] at k; exact k N hA
    · have h : rg x (cnS S) = true := h
      rw [h, h2] at k; exact k N hA
    · have h : rg x (cnS S) = true := h
      have h4 : rg w 2 = false := h4
      rw [h, h2, h4] at k; exact k N hA
    · have h : rg x (cnS S) = true := h
      have h4 : rg w 2 = true := h4
      have hy := inV_1 (n := 24) rfl (by decide) h2
      have hx := rg_tt h
      rw [h, h2, h4] at k
      have p94 : ∀ b j, pC b 94 j = false := fun _ _ => rfl
      have f94 : ∀ {N N' : M2}, agr (frq [94]) N N' → agr (pC b) N N' := fun h => frq_pC (fun a ha j => by rw [List.mem_singleton.mp ha]; exact p94 b j) h
      refine c222 (S := S) (by omega) hI hA (fun N1 hN1 hs1 g33 => ⟨rfl, ?_⟩)
      have fin : ∀ N2, agr (pC b) S N2 → (∀ j, j < 48 → gI N2 94 j = wnF b S (ix x) j) → ∀ u7 u8, WP (d + 1) 107 261 102 [.ref 67, .int x, .int y, .int w, .int 0, .int (-1), .int 0, u7, u8] [] 107 (FR b, N2) (rI f) := by
        intro N2 hA2 hh
        have k2 := k N2 hA2
        have inner : ∀ o bs ms, o + ix y ≤ 48 → (∀ u7 u8, brK (ms < sm (fun j => wnF b S (ix x) (o + j)) (ix y)) (WP (d + 1) 107 261 102 [.ref 67, .int x, .int y, .int w, .int (nI o), .int (sm (fun j => wnF b S (ix x) (o + j)) (ix y)), .int (nI (o + 1)), u7, u8] [] 107 (FR b, N2) (rI f)) (WP (d + 1) 107 261 102 [.ref 67, .int x, .int y, .int w, .int bs, .int ms, .int (nI (o + 1)), u7, u8] [] 107 (FR b, N2) (rI f))) → ∀ m k, k + m = ix y → WP (d + 1) 107 261 117 [.ref 67, .int x, .int y, .int w, .int bs, .int ms, .int (nI o), .int (sm (fun j => wnF b S (ix x) (o + j)) k), .int (nI k)] [] 107 (FR b, N2) (rI f) := by
          intro o bs ms ho q m
          induction m with
          | zero =>
            intro k hk
            have : k = ix y := by omega
            subst this
            refine v261_117 (brK_t (by rw [n_ix, i_le]; exact Int.le_refl _) ?_)
            rw [nI_1]
            exact q _ _
          | succ m ih =>
            intro k hk
            have e1 : ix (nI o + nI k) = o + k := by rw [nI_add, ix_n (by omega)]
            refine v261_117 (brK_f (fun z => ?_) (iK_i (by rw [e1]; omega) ?_))
            · rw [← n_ix y] at z
              have := (cnt_lt (n := k) (m := ix y) rfl (by omega) (by omega)).mp z
              omega
            · rw [e1, hh _ (by omega), nI_1]
              exact ih (k + 1) (by omega)
        have outer : ∀ m o bs ms, (o + m = 49 - ix y) → (f (bif decide (w = 0) then (whB (wnF b S (ix x)) (ix y) m o bs ms).1 else (whB (wnF b S (ix x)) (ix y) m o bs ms).2) (FR b, N2)) → ∀ u7 u8, WP (d + 1) 107 261 102 [.ref 67, .int x, .int y, .int w, .int bs, .int ms, .int (nI o), u7, u8] [] 107 (FR b, N2) (rI f) := by
          intro m
          induction m with
          | zero =>
            intro o bs ms ho q u7 u8
            have eo : nI o + y = nI (o + ix y) := by rw [← n_ix y, nI_add, n_ix]
            refine v261_102 ?_
            rw [eo]
            refine brK_t (by rw [show (48 : Int32) = nI 48 from rfl, nI_ltI (by decide) (by omega)]; omega) (brK_d (fun z => ?_) (fun z => ?_))
            · rw [z] at q; exact q
            · rw [z] at q; exact q
          | succ m ih =>
            intro o bs ms ho q u7 u8
            have eo : nI o + y = nI (o + ix y) := by rw [← n_ix y, nI_add, n_ix]
            refine v261_102 ?_
            rw [eo]
            refine brK_f (by rw [show (48 : Int32) = nI 48 from rfl, nI_ltI (by decide) (by omega)]; omega) ?_
            exact inner o bs ms (by omega) (fun u7 u8 => ⟨fun z => ih (o + 1) _ _ (by omega) (by unfold whB at q; rw [decide_eq_false (show ¬ sm (fun j => wnF b S (ix x) (o + j)) (ix y) ≤ ms from fun e => by rw [i_le] at e; rw [i_lt] at z; omega)] at q; exact q) u7 u8, fun z => ih (o + 1) _ _ (by omega) (by unfold whB at q; rw [decide_eq_true (i_nlt z)] at q; exact q) u7 u8⟩) (ix y) 0 (by omega)
        exact outer (49 - ix y) 0 0 (-1) (by omega) k2
      have fill : ∀ m k (N2 : M2) (u5 u6 u7 u8 : Value), k + m = 48 → agr (frq [94]) N N2 → MS N2 (hst b S rmZ k) → (∀ j, j < k → gI N2 94 j = wnF b S (ix x) j) → WP (d + 1) 107 261 36 [.ref 67, .int x, .int y, .int w, .int (nI k), u5, u6, u7, u8] [] 107 (FR b, N2) (rI f) := by
        intro m
        induction m with
        | zero =>
          intro k N2 u5 u6 u7 u8 hk hN hs hh
          have : k = 48 := by omega
          subst this
          exact v261_36 (brK_t (by decide) (fin N2 (agr_t hA (f94 hN)) hh _ _))
        | succ m ih =>
          intro k N2 u5 u6 u7 u8 hk hN hs hh
          have e1 : ix (nI k) = k := ix_n (by omega)
          refine v261_36 (brK_f (by rw [show (48 : Int32) = nI 48 from rfl, nI_leI (by decide) (by omega)]; omega) (c225 (S := S) (r := rmZ k) (by omega) hI (agr_t hA (f94 hN)) hs (fun N3 hN3 hs3 g33 g34 => ⟨rfl, iK_i (by omega) ?_⟩)))
          have hA3 : agr (pC b) S N3 := agr_t hA (agr_t (f94 hN) (frh_pC hN3))
          have hN3' : agr (frq [94]) N N3 := agr_t hN (frq_h hN3)
          dsimp only
          rw [e68 hI hA3 (by decide), (vil_e hI hA3 (by omega)).2.2.1, (vil_e hI hA3 (by omega)).1, g33, e1, nI_1]
          have nx : ∀ v, v = wnF b S (ix x) k → WP (d + 1) 107 261 36 [.ref 67, .int x, .int y, .int w, .int (nI (k + 1)), u5, u6, u7, u8] [] 107 (FR b, sI N3 94 k v) (rI f) := by
            intro v hv
            refine ih (k + 1) _ _ _ _ _ (by omega) (agr_sI rfl hN3') hs3 (fun j hj => ?_)
            by_cases e : j = k
            · subst e; rw [gI_s, hv]
            · rw [gI_oj e, agr_nI hN3 rfl]
              exact hh j (by omega)
          refine brK_d (fun z => iK_i (by omega) (nx _ ?_)) (fun z => iK_i (by omega) (iK_i (by omega) (nx _ ?_)))
          · unfold wnF; rw [z]; rfl
          · unfold wnF; rw [z]; rfl
      exact fill 48 0 N1 _ _ _ _ (by omega) (frq_h hN1) hs1 (fun j hj => absurd hj (by omega))
end WHEN
