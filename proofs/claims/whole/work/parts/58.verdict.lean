/-! verdict, clash -/
def scS (S : M2) : Nat := ix (gI S 26 0)
def vdS (S : M2) (i : Nat) (set : Int32) : Int32 := vdV (phY S i set) (phN S i)
def verV (S : M2) (x y : Int32) : Int32 := bif rg x 6 && rg y (scS S) then (bif isRowV S (ix x) 0 then vdS S (ix x) (gI S 27 (ix y)) else refV S (ix x)) else -1
def clW (S : M2) (i : Nat) (t : Int32) : Nat → Nat → Int32 → Int32
  | 0, _, u => u
  | m + 1, s, u => clW S i t m (s + 1) (bif decide (vdS S i (gI S 27 s) = -2) || decide (vdS S i (gI S 27 s) = t) then u else u ||| ((1 : Int32) <<< (nI s &&& 31)))
def claV (S : M2) (x y : Int32) : Int32 := bif rg x 6 && rg y (scS S) then (bif isRowV S (ix x) 0 then (bif decide (vdS S (ix x) (gI S 27 (ix y)) = -2) then 0 else clW S (ix x) (vdS S (ix x) (gI S 27 (ix y))) (scS S) 0 0) else refV S (ix x)) else -1
theorem vdV_c (y a : Nat) : vdV y a = 1 ∨ vdV y a = 0 ∨ vdV y a = -2 := by
  unfold vdV
  cases decide (a < 2 * y) with
  | true => exact Or.inl rfl
  | false =>
    cases decide (2 * y < a) with
    | true => exact Or.inr (Or.inl rfl)
    | false => exact Or.inr (Or.inr rfl)
section VERDICT
variable {d : Nat} {b : Bool} {S : M2}
theorem c264 {f : Int32 → Mm → Prop} {y a : Nat} {N : M2} (hd : 1 ≤ d) (hy : y ≤ 100000) (ha : a ≤ 100000) (k : f (vdV y a) (FR b, N)) : WP d 107 264 0 [.int (nI y), .int (nI a)] [] 107 (FR b, N) (rI f) := by
  obtain ⟨d, rfl⟩ := ex1 hd
  have e : (2 * nI y : Int32) = nI (2 * y) := nI_mul 2 y
  unfold vdV at k
  refine v264_0 ?_
  rw [e]
  refine ⟨fun z => ⟨fun z2 => ?_, fun z2 => ?_⟩, fun z => ?_⟩
  · rw [nI_leI (by omega) (by omega)] at z z2
    rw [decide_eq_false (show ¬ a < 2 * y by omega), decide_eq_false (show ¬ 2 * y < a by omega)] at k
    exact k
  · rw [nI_leI (by omega) (by omega)] at z z2
    rw [decide_eq_false (show ¬ a < 2 * y by omega), decide_eq_true (show 2 * y < a by omega)] at k
    exact k
  · rw [nI_leI (by omega) (by omega)] at z
    rw [decide_eq_true (show a < 2 * y by omega)] at k
    exact k
theorem sumN_bt {set : Int32} {bs : Nat → Nat} (n : Nat) : sumN (fun k => btN set (bs k)) n ≤ n := by
  have := sumN_le (f := fun k => btN set (bs k)) (g := fun _ => 1) n (fun j _ => by rcases btN_1 set (bs j) with e | e <;> rw [e] <;> omega)
  rw [sumN_k] at this
  omega
theorem c263 {f : Int32 → Mm → Prop} {x y : Int32} {N : M2} (hd : 4 ≤ d) (hI : INV b S) (hA : agr (pC b) S N) (hx : ix x < 6) (hr : isRowV S (ix x) 0 = true) (hy : ix y < 5) (k : f (vdS S (ix x) (gI S 27 (ix y))) (FR b, N)) : WP d 107 263 0 [.ref 67, .int x, .int y, U, U, U] [] 107 (FR b, N) (rI f) := by
  obtain ⟨d, rfl⟩ := ex1 (e := 3) hd
  obtain ⟨_, _, h60, h104, _⟩ := row_of hI hx hr
  have hz : szS S (ix x) ≤ 60 := h60
  have e104 : gI N 104 (ix x) = nI (szS S (ix x)) := by rw [agr_nI (p := pC b) hA rfl, h104]; exact (n_ix _).symm
  have e73 : gI N 73 (ix y) = gI S 27 (ix y) := (agr_nI hA rfl).trans (hI.2.2.2.1.2.2 (ix y) hy).2
  have l : ∀ m i, i + m = szS S (ix x) → phL S (ix x) m i = phN S (ix x) → WP (d + 1) 107 263 8 [.ref 67, .int x, .int y, .int (nI (sumN (fun k => btN (gI S 27 (ix y)) (bsN S (ix x) k)) i)), .int (nI i), .int (nI i)] [] 107 (FR b, N) (rI f) := by
    intro m
    induction m with
    | zero =>
      intro i hm hL
      have : i = phN S (ix x) := hL
      subst this
      have := @sumN_bt (gI S 27 (ix y)) (bsN S (ix x)) (phN S (ix x))
      exact v263_8 (iK_i hx (brK_t (by rw [e104, nI_leI (by omega) (by omega)]; omega) (c264 (by omega) (by omega) (by omega) ⟨rfl, k⟩)))
    | succ m ih =>
      intro i hm hL
      unfold phL at hL
      have hg : rg (nI i) (ix (gI S (shC (ix x)) 3)) = true := rg_t.mpr (by rw [ix_n (by omega)]; show i < szS S (ix x); omega)
      refine v263_8 (iK_i hx (brK_f (by rw [e104, nI_leI (by omega) (by omega)]; omega) (c224 (S := S) (by omega) hI hA hx hr hg ⟨rfl, c193 (by omega) ⟨rfl, brK_b (fun z => ?_) (fun z => iK_i hy (c224 (S := S) (by omega) hI hA hx hr hg ⟨rfl, ?_⟩))⟩⟩)))
      · have z : isTh S (ix x) i = false := z
        rw [z] at hL
        have : i = phN S (ix x) := hL
        subst this
        have := @sumN_bt (gI S 27 (ix y)) (bsN S (ix x)) (phN S (ix x))
        exact c264 (by omega) (by omega) (by omega) ⟨rfl, k⟩
      · have z : isTh S (ix x) i = true := z
        rw [z] at hL
        dsimp only
        rw [e73, nI_1]
        have eb : (((gI S 27 (ix y) >>> (byV S (ix x) (nI i) &&& 31)) &&& 1) : Int32) = nI (btN (gI S 27 (ix y)) (bsN S (ix x) i)) := by
          show bitV (gI S 27 (ix y)) (byV S (ix x) (nI i)) = _
          rw [← btN_e]
          congr 1
          exact (n_ix _).symm
        rw [eb, nI_add]
        exact ih (i + 1) (by omega) hL
  exact v263_0 (l (szS S (ix x)) 0 (by omega) rfl)
theorem sch_27 {N : M2} (hA : agr (pC b) S N) {y : Int32} (hy : ix y < 5) : atV N 27 y = gI S 27 (ix y) := atS hA rfl hy
theorem P_verdict (hI : INV b S) {x y : Int32} : PAIR b S 129 262 [.ref 4, .int x, .int y, U] [.ref 67, .int x, .int y, U] := by
  have hc5 : scS S ≤ 5 := hI.2.2.2.1.1
  have hnn : 0 ≤ (gI S 26 0).toInt := by have := ix_t (gI S 26 0); unfold scS at hc5; omega
  refine PAIR_ro hI (verV S x y) (fun d hd f k => ?_) (fun N hA d hd f k => ?_)
  · unfold verV at k
    refine v129_0 (c18 (by omega) (fun h => ⟨rfl, ?_⟩) (fun h => ⟨rfl, c26 (by omega) hnn ⟨rfl, brK_b (fun h2 => ?_) (fun h2 => ?_)⟩⟩))
    · rw [h] at k; exact k S (agr_r S)
    · have h2 : rg y (scS S) = false := h2
      rw [h, h2] at k; exact k S (agr_r S)
    · have h2 : rg y (scS S) = true := h2
      rw [h, h2] at k
      have hi := rg_tt h
      have hy := rg_tt h2
      have hk := sh_kd _ hi
      refine oK_i hk.2.1 hk.1 (c19 (by omega) hi ⟨rfl, brK_b (fun h5 => oK_i hk.2.1 hk.1 (c66 (by omega) hi ⟨rfl, ?_⟩)) (fun h5 => c130 (S := S) (by omega) hI hi h5 (agr_r S) (fun N' hN' hK => ⟨rfl, c15 (by omega) (by decide) (Or.inl rfl) ⟨rfl, ?_⟩⟩))⟩)
      · rw [h5] at k; exact k S (agr_r S)
      · rw [h5] at k
        have hA : agr (pC b) S N' := frs_pC hN'
        have hn := (phN_ok S (ix x)).1
        have hz : szS S (ix x) ≤ 60 := (row_of hI hi h5).2.2.1
        rw [sch_27 hA (by omega)]
        refine c133 (p := 0) (c := 60) (by omega) (by decide) hK (fun t ht => Nat.le_trans (cn_le _ _) (by omega)) (by omega) (by decide) ⟨rfl, ?_⟩
        rw [ph_ys]
        exact k N' hA
  · unfold verV at k
    have e67 : gI N 67 7 = gI S 26 0 := (agr_nI hA rfl).trans hI.2.2.2.1.2.1
    refine v262_0 (c183 (by omega) ⟨rfl, brK_b (fun h => ?_) (fun h => c191 (by omega) (by rw [e67]; exact hnn) ⟨rfl, ?_⟩)⟩)
    · rw [h] at k; exact k N hA
    · rw [e67]
      refine brK_b (fun h2 => ?_) (fun h2 => ?_)
      · have h2 : rg y (scS S) = false := h2
        rw [h, h2] at k; exact k N hA
      · have h2 : rg y (scS S) = true := h2
        rw [h, h2] at k
        have hi := rg_tt h
        have hy := rg_tt h2
        refine c221 (S := S) (by omega) hI hA hi (by decide) ⟨rfl, ?_⟩
        cases h5 : isRowV S (ix x) 0 with
        | false => rw [h5] at k; exact brK_f (rfV_neg S _) (k N hA)
        | true =>
          rw [h5] at k
          exact brK_t (show (0 : Int32) ≤ 0 by decide) (c263 (S := S) (by omega) hI hA hi h5 (by omega) ⟨rfl, k N hA⟩)
theorem P_clash (hI : INV b S) {x y : Int32} : PAIR b S 134 265 [.ref 4, .int x, .int y, U] [.ref 67, .int x, .int y, U, U, U, U] := by
  have hc5 : scS S ≤ 5 := hI.2.2.2.1.1
  have hnn : 0 ≤ (gI S 26 0).toInt := by have := ix_t (gI S 26 0); unfold scS at hc5; omega
  refine PAIR_ro hI (claV S x y) (fun d hd f k => ?_) (fun N hA d hd f k => ?_)
  · unfold claV at k
    refine v134_0 (c18 (by omega) (fun h => ⟨rfl, ?_⟩) (fun h => ⟨rfl, c26 (by omega) hnn ⟨rfl, brK_b (fun h2 => ?_) (fun h2 => ?_)⟩⟩))
    · rw [h] at k; exact k S (agr_r S)
    · have h2 : rg y (scS S) = false := h2
      rw [h, h2] at k; exact k S (agr_r S)
    · have h2 : rg y (scS S) = true := h2
      rw [h, h2] at k
      have hi := rg_tt h
      have hy := rg_tt h2
      have hk := sh_kd _ hi
      obtain ⟨d', hd'⟩ := ex1 (e := 0) (d := d) (by omega)
      refine oK_i hk.2.1 hk.1 (c19 (by omega) hi ⟨rfl, brK_b (fun h5 => oK_i hk.2.1 hk.1 (c66 (by omega) hi ⟨rfl, ?_⟩)) (fun h5 => c130 (S := S) (by omega) hI hi h5 (agr_r S) (fun N' hN' hK => ⟨rfl, ?_⟩))⟩)
      · rw [h5] at k; exact k S (agr_r S)
      · rw [h5] at k
        have hA : agr (pC b) S N' := frs_pC hN'
        have hn := (phN_ok S (ix x)).1
        have hz : szS S (ix x) ≤ 60 := (row_of hI hi h5).2.2.1
        have sb : ∀ {g : Int32 → Mm → Prop} {set : Int32}, g (vdS S (ix x) set) (FR b, N') → WP d' 107 133 0 [.ref 26, .int set, .int 0, U, U] [] 107 (FR b, N') (rI g) := by
          intro g set q
          refine c133 (p := 0) (c := 60) (by omega) (by decide) hK (fun t ht => Nat.le_trans (cn_le _ _) (by omega)) (by omega) (by decide) ?_
          rw [ph_ys]
          exact q
        subst hd'
        refine v135_0 (c15 (by omega) (by decide) (Or.inl rfl) ⟨rfl, ?_⟩)
        rw [sch_27 hA (by omega)]
        refine sb ⟨rfl, ?_⟩
        have k2 := k N' hA
        generalize vdS S (ix x) (gI S 27 (ix y)) = t at k2 ⊢
        have e26 : gI N' 26 0 = nI (scS S) := by rw [agr_nI (p := pC b) hA rfl]; exact (n_ix _).symm
        by_cases ht : t = -2
        · subst ht
          refine v135_19 ⟨fun _ => ⟨rfl, k2⟩, fun _ => brK_t rfl ⟨rfl, k2⟩⟩
        · rw [decide_eq_false ht] at k2
          have l : ∀ m s u (u5 : Value), s + m = scS S → f (clW S (ix x) t m s u) (FR b, N') → WP (d' + 1) 107 135 19 [.ref 26, .int y, .int t, .int u, .int (nI s), u5] [] 107 (FR b, N') (rI fun v9 N8 => N8.1 = FR b ∧ f v9 (FR b, N8.2)) := by
            intro m
            induction m with
            | zero =>
              intro s u u5 hs q
              have : s = scS S := by omega
              subst this
              exact v135_19 (brK_t (by rw [e26, i_le]; exact Int.le_refl _) ⟨rfl, q⟩)
            | succ m ih =>
              intro s u u5 hs q
              unfold clW at q
              refine v135_19 (brK_f (by rw [e26, nI_leI (by omega) (by omega)]; omega) (brK_f ht (c15 (by omega) (by decide) (Or.inl rfl) ⟨rfl, ?_⟩)))
              rw [sch_27 hA (by rw [ix_n (by omega)]; omega), ix_n (by omega)]
              refine sb ⟨rfl, ?_⟩
              rw [nI_1]
              refine brK_d (fun z => ?_) (fun z => brK_d (fun z2 => ?_) (fun z2 => ?_))
              · rw [z] at q; exact ih (s + 1) _ _ (by omega) q
              · rw [z, z2] at q; exact ih (s + 1) _ _ (by omega) q
              · rw [z, z2] at q; exact ih (s + 1) _ _ (by omega) q
          exact l (scS S) 0 0 _ (by omega) k2
  · unfold claV at k
    have e67 : gI N 67 7 = gI S 26 0 := (agr_nI hA rfl).trans hI.2.2.2.1.2.1
    refine v265_0 (c183 (by omega) ⟨rfl, brK_b (fun h => ?_) (fun h => c191 (by omega) (by rw [e67]; exact hnn) ⟨rfl, ?_⟩)⟩)
    · rw [h] at k; exact k N hA
    · rw [e67]
      refine brK_b (fun h2 => ?_) (fun h2 => ?_)
      · have h2 : rg y (scS S) = false := h2
        rw [h, h2] at k; exact k N hA
      · have h2 : rg y (scS S) = true := h2
        rw [h, h2] at k
        have hi := rg_tt h
        have hy := rg_tt h2
        refine c221 (S := S) (by omega) hI hA hi (by decide) ⟨rfl, ?_⟩
        cases h5 : isRowV S (ix x) 0 with
        | false => rw [h5] at k; exact brK_f (rfV_neg S _) (k N hA)
        | true =>
          rw [h5] at k
          refine brK_t (show (0 : Int32) ≤ 0 by decide) (c263 (S := S) (by omega) hI hA hi h5 (by omega) ⟨rfl, ?_⟩)
          have k2 := k N hA
          have e67' : gI N 67 7 = nI (scS S) := e67.trans (n_ix _).symm
          have htc := vdV_c (phY S (ix x) (gI S 27 (ix y))) (phN S (ix x))
          have htc : vdS S (ix x) (gI S 27 (ix y)) = 1 ∨ vdS S (ix x) (gI S 27 (ix y)) = 0 ∨ vdS S (ix x) (gI S 27 (ix y)) = -2 := htc
          generalize vdS S (ix x) (gI S 27 (ix y)) = t at k2 htc ⊢
          by_cases ht : t = -2
          · subst ht
            exact v265_44 ⟨fun _ => k2, fun _ => brK_t (by decide) k2⟩
          · rw [decide_eq_false ht] at k2
            have ht0 : ¬ t < 0 := by rcases htc with e | e | e <;> subst e <;> first | decide | exact absurd rfl ht
            have l : ∀ m s u, s + m = scS S → f (clW S (ix x) t m s u) (FR b, N) → WP (d + 1) 107 265 44 [.ref 67, .int x, .int y, .int (bif true then 0 else refV S (ix x)), .int t, .int u, .int (nI s)] [] 107 (FR b, N) (rI f) := by
              intro m
              induction m with
              | zero =>
                intro s u hs q
                have : s = scS S := by omega
                subst this
                exact v265_44 (brK_t (by rw [e67', i_le]; exact Int.le_refl _) q)
              | succ m ih =>
                intro s u hs q
                unfold clW at q
                refine v265_44 (brK_f (by rw [e67', nI_leI (by omega) (by omega)]; omega) (brK_f ht0 (c263 (S := S) (by omega) hI hA hi h5 (by rw [ix_n (by omega)]; omega) ⟨rfl, ?_⟩)))
                rw [ix_n (by omega), nI_1]
                have hoc := vdV_c (phY S (ix x) (gI S 27 s)) (phN S (ix x))
                have hoc : vdS S (ix x) (gI S 27 s) = 1 ∨ vdS S (ix x) (gI S 27 s) = 0 ∨ vdS S (ix x) (gI S 27 s) = -2 := hoc
                generalize vdS S (ix x) (gI S 27 s) = o at q hoc ⊢
                rcases htc with e | e | e
                · subst e
                  rcases hoc with e | e | e <;> subst e
                  · exact brK_f (by decide) (ih (s + 1) _ (by omega) q)
                  · exact brK_t (by decide) (ih (s + 1) _ (by omega) q)
                  · exact brK_f (by decide) (ih (s + 1) _ (by omega) q)
                · subst e
                  rcases hoc with e | e | e <;> subst e
                  · exact brK_t (by decide) (ih (s + 1) _ (by omega) q)
                  · exact brK_f (by decide) (ih (s + 1) _ (by omega) q)
                  · exact brK_f (by decide) (ih (s + 1) _ (by omega) q)
                · exact absurd e ht
            exact l (scS S) 0 0 (by omega) k2
end VERDICT
