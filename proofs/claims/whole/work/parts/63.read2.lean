def rdX (q : PS) (w : Int32) : Int32 := bif decide ((scn (gdV q) 65536 0 (99, -1)).2 < 0) then -2 else bif decide (w = 0) then nI (pop (ix (scn (gdV q) 65536 0 (99, -1)).2)) else (scn (gdV q) 65536 0 (99, -1)).2
def reaV (S : M2) (x w : Int32) : Int32 := bif rg x 6 && rg w 2 then (bif isRowV S (ix x) 0 then rdX (psF S (ix x)) w else refV S (ix x)) else -1
theorem rea_1 {S : M2} {x w : Int32} (h : rg x 6 = false) : reaV S x w = -1 := by unfold reaV; simp only [h, Bool.false_and, cond_false]
theorem rea_2 {S : M2} {x w : Int32} (h : rg w 2 = false) : reaV S x w = -1 := by unfold reaV; simp only [h, Bool.and_false, cond_false]
theorem rea_3 {S : M2} {x w : Int32} (h : rg x 6 = true) (h2 : rg w 2 = true) (h5 : isRowV S (ix x) 0 = false) : reaV S x w = refV S (ix x) := by unfold reaV; simp only [h, h2, h5, Bool.and_self, cond_true, cond_false]
theorem bif3 {p q r : Bool} {X Y Z : Int32} (hp : p = true) (hq : q = true) (hr : r = true) : (bif p && q then (bif r then X else Y) else Z) = X := by subst hp hq hr; rfl
theorem rea_4 {S : M2} {x w : Int32} (h : rg x 6 = true) (h2 : rg w 2 = true) (h5 : isRowV S (ix x) 0 = true) : reaV S x w = rdX (psF S (ix x)) w := by
  unfold reaV
  exact bif3 h h2 h5
section READP
variable {d : Nat} {b : Bool} {S : M2}
theorem c271 {f : Int32 → Mm → Prop} {s : Nat} {q : PS} {N : M2} (hd : 3 ≤ d) (hK : RK N q) (hQ : psK q 60) (k : f (bI (gdV q s)) (FR b, N)) : WP d 107 271 0 [.ref 67, .int (nI s), U] [] 107 (FR b, N) (rI f) := by
  obtain ⟨d, rfl⟩ := ex1 (e := 2) hd
  have h12 := hQ.1
  have l : ∀ m p, p + m = q.1 → (∀ c, c < p → soV q (nI s) c = true) → WP (d + 1) 107 271 2 [.ref 67, .int (nI s), .int (nI p)] [] 107 (FR b, N) (rI f) := by
    intro m
    induction m with
    | zero =>
      intro p hp hh
      have : p = q.1 := by omega
      subst this
      have e : gdV q s = true := (allN_i _).mpr hh
      rw [e] at k
      exact v271_2 (brK_t (by rw [hK.1, nI_leI (by omega) (by omega)]; omega) k)
    | succ m ih =>
      intro p hp hh
      refine v271_2 (brK_f (by rw [hK.1, nI_leI (by omega) (by omega)]; omega) (c269 (q := q) (by omega) hK hQ (by omega) ⟨rfl, brK_b (fun z => ?_) (fun z => ?_)⟩))
      · have e : gdV q s = false := allN_f.mpr ⟨p, by omega, z⟩
        rw [e] at k
        exact k
      · rw [nI_1]
        refine ih (p + 1) (by omega) (fun c hc => ?_)
        by_cases e : c = p
        · subst e; exact z
        · exact hh c (by omega)
  exact v271_0 (l q.1 0 (by omega) (fun c hc => absurd hc (by omega)))
theorem C_read (hI : INV b S) {x w : Int32} {f : Int32 → Mm → Prop} (hd : 199 ≤ d) (k : ∀ M', agr (pC b) S M' → f (reaV S x w) (FR b, M')) : WP (d + 1) 107 139 0 [.ref 4, .int x, .int w, U, U] [] 107 (FR b, S) (rI f) := by
  · have hX : True := trivial
    refine v139_0 (c18 (by omega) (fun h => ⟨rfl, ?_⟩) (fun h => ⟨rfl, c79 (by omega) ⟨rfl, brK_b (fun h2 => ?_) (fun h2 => ?_)⟩⟩))
    · rw [rea_1 h] at k; exact k S (agr_r S)
    · rw [rea_2 h2] at k; exact k S (agr_r S)
    · have hi := rg_tt h
      have hk := sh_kd _ hi
      refine oK_i hk.2.1 hk.1 (c19 (by omega) hi ⟨rfl, brK_b (fun h5 => oK_i hk.2.1 hk.1 (c66 (by omega) hi ⟨rfl, ?_⟩)) (fun h5 => c137 (S := S) (by omega) hI hi h5 (agr_r S) (fun N' hN' hK => ⟨rfl, ?_⟩))⟩)
      · rw [rea_3 h h2 h5] at k; exact k S (agr_r S)
      · rw [rea_4 h h2 h5] at k
        have hQ := psK_F hI hi h5
        generalize psF S (ix x) = q at hK hQ k
        refine c140 (by omega) hQ hK (fun N2 hN2 => ⟨rfl, ?_⟩)
        have k2 := k N2 (frs_pC (agr_t hN' (fyu_s hN2)))
        unfold rdX at k2
        have si := scn_is (gd := gdV q) (bs := -1) 65536 0 (99, -1) (by omega) (Or.inl ⟨by decide, rfl⟩)
        generalize scn (gdV q) 65536 0 (99, -1) = r at si k2 ⊢
        rcases si with ⟨_, e⟩ | ⟨z, hz, e⟩
        · rw [e] at k2 ⊢
          exact brK_f (by decide) k2
        · subst e
          have k2 : f (bif decide (nI z < 0) then -2 else bif decide (w = 0) then nI (pop (ix (nI z))) else nI z) (FR b, N2) := k2
          rw [decide_eq_false (nI_pos (by omega)), ix_n (by omega)] at k2
          refine brK_t (nI_pos' (by omega)) (brK_d (fun y => ?_) (fun y => ?_))
          · rw [y] at k2
            exact c110 (by omega) hz ⟨rfl, k2⟩
          · rw [y] at k2
            exact k2
theorem M_read (hI : INV b S) {x w : Int32} {f : Int32 → Mm → Prop} {N : M2} (hd : 199 ≤ d) (hA : agr (pC b) S N) (k : ∀ M', agr (pC b) S M' → f (reaV S x w) (FR b, M')) : WP (d + 1) 107 270 0 [.ref 67, .int x, .int w, U, U, U, U, U] [] 107 (FR b, N) (rI f) := by
  · have hX : True := trivial
    refine v270_0 (c183 (by omega) ⟨rfl, brK_b (fun h => ?_) (fun h => c180n 1 (by omega) rfl (by decide) ⟨rfl, brK_b (fun h2 => ?_) (fun h2 => ?_)⟩)⟩)
    · rw [rea_1 h] at k; exact k N hA
    · have h2 : rg w 2 = false := h2
      rw [rea_2 h2] at k; exact k N hA
    · have h2 : rg w 2 = true := h2
      have hi := rg_tt h
      refine c221 (S := S) (by omega) hI hA hi (by decide) ⟨rfl, ?_⟩
      cases h5 : isRowV S (ix x) 0 with
      | false => rw [rea_3 h h2 h5] at k; exact brK_f (rfV_neg S _) (k N hA)
      | true =>
        rw [rea_4 h h2 h5] at k
        refine brK_t (show (0 : Int32) ≤ 0 by decide) (c267 (S := S) (by omega) hI hi h5 hA (fun N' hN' hK => ⟨rfl, ?_⟩))
        have hA2 : agr (pC b) S N' := agr_t hA (frv_pC hN')
        have hQ := psK_F hI hi h5
        have k2 : f (rdX (psF S (ix x)) w) (FR b, N') := k N' hA2
        generalize psF S (ix x) = q at hK hQ k2
        -- the answer, by what the reference keeps
        have fin : ∀ r' : FS, r' = scn (gdV q) 65536 0 (17, -2) → brK (r'.2 < 0) (f r'.2 (FR b, N')) (brK (w = 1) (f r'.2 (FR b, N')) (f (nI r'.1) (FR b, N'))) := by
          intro r' hr'
          have tw := scn_two (gd := gdV q) 65536 0 (99, -1) (17, -2) (Or.inr ⟨by decide, by decide, rfl, rfl⟩)
          have si := scn_is (gd := gdV q) (bs := -1) 65536 0 (99, -1) (by omega) (Or.inl ⟨by decide, rfl⟩)
          have si' := scn_is (gd := gdV q) (bs := -2) 65536 0 (17, -2) (by omega) (Or.inl ⟨by decide, rfl⟩)
          unfold rdX at k2
          rw [← hr'] at tw si'
          generalize scn (gdV q) 65536 0 (99, -1) = r at si tw k2
          have hw := rg2.mp h2
          rcases tw with e | ⟨_, _, e1, e2⟩
          · subst e
            rcases si with ⟨_, e⟩ | ⟨z, hz, e⟩
            · rcases si' with ⟨_, e'⟩ | ⟨z, hz, e'⟩
              · rw [e] at e'; exact absurd e' (by decide)
              · rw [e'] at e
                have e : nI z = -1 := e
                have z1 := nI_toInt (n := z) (by omega)
                rw [e] at z1
                have : ((-1 : Int32)).toInt = -1 := rfl
                omega
            · rw [e] at k2 ⊢
              have k2 : f (bif decide (nI z < 0) then -2 else bif decide (w = 0) then nI (pop (ix (nI z))) else nI z) (FR b, N') := k2
              rw [decide_eq_false (nI_pos (by omega)), ix_n (by omega)] at k2
              refine brK_f (nI_pos (by omega)) ?_
              rcases hw with e0 | e0 <;> subst e0
              · exact brK_f (by decide) k2
              · exact brK_t rfl k2
          · rw [e1] at k2
            rw [e2]
            exact brK_t (by decide) k2
        have l : ∀ m s (st : FS) (u3 u7 : Value), s + m = 65536 → st.1 ≤ 1000 → (∀ r' : FS, r' = scn (gdV q) m s st → brK (r'.2 < 0) (f r'.2 (FR b, N')) (brK (w = 1) (f r'.2 (FR b, N')) (f (nI r'.1) (FR b, N')))) → WP (d + 1) 107 270 47 [.ref 67, .int x, .int w, u3, .int st.2, .int (nI st.1), .int (nI s), u7] [] 107 (FR b, N') (rI f) := by
          intro m
          induction m with
          | zero =>
            intro s st u3 u7 hs h1000 q2
            exact v270_47 (brK_t (by rw [show (65535 : Int32) = nI 65535 from rfl, nI_ltI (by decide) (by omega)]; omega) (q2 st rfl))
          | succ m ih =>
            intro s st u3 u7 hs h1000 q2
            have hpl := pop_le s
            have q2 : ∀ r' : FS, r' = scn (gdV q) m (s + 1) (upS (gdV q) st s) → _ := q2
            unfold upS at q2
            refine v270_47 (brK_f (by rw [show (65535 : Int32) = nI 65535 from rfl, nI_ltI (by decide) (by omega)]; omega) (c250 (by omega) (by omega) ⟨rfl, ⟨fun z => ?_, fun z => c271 (q := q) (by omega) hK hQ ⟨rfl, brK_b (fun y => ?_) (fun y => ?_)⟩⟩⟩))
            · rw [nI_leI (by omega) (by omega)] at z
              rw [Nat.ble_eq_true_of_le z] at q2
              rw [nI_1]
              exact ih (s + 1) st _ _ (by omega) h1000 q2
            · rw [y, show (!false) = true from rfl, Bool.or_true] at q2
              rw [nI_1]
              exact ih (s + 1) st _ _ (by omega) h1000 q2
            · rw [nI_leI (by omega) (by omega)] at z
              rw [y, show Nat.ble st.1 (pop s) = false from by
                cases hb : Nat.ble st.1 (pop s) with
                | false => rfl
                | true => exact absurd (Nat.le_of_ble_eq_true hb) z] at q2
              rw [nI_1]
              exact ih (s + 1) (pop s, nI s) _ _ (by omega) (by show pop s ≤ 1000; omega) q2
        exact l 65536 0 (17, -2) _ _ (by omega) (by decide) fin
theorem P_read (hI : INV b S) {x w : Int32} : PAIR b S 139 270 [.ref 4, .int x, .int w, U, U] [.ref 67, .int x, .int w, U, U, U, U, U] :=
  PAIR_ro hI (reaV S x w) (fun _ hd _ k => C_read hI hd k) (fun _ hA _ hd _ k => M_read hI hd hA k)
end READP
