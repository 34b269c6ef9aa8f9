section PLANNER2
variable {d : Nat} {b : Bool} {S : M2} {a B n : Nat} {set : Int32}
theorem HgK_a {l : List Nat} {N N' : M2} {k : Nat} (hl : nin l 44 = true) (h : agr (fr l) N N') (q : HgK S N k) : HgK S N' k := by
  obtain ⟨s, h1, h2, h3⟩ := q
  exact ⟨s, HW_a (fun j => (h 44 j hl).1) h1, h2, h3⟩
theorem hgK_s {N : M2} {k : Nat} {s : St} (h : HW S N 44 (agS S s)) (h2 : s.2.1 = hgK S k) (h3 : s.2.2.2 = hrK S k) : HgK S N (k + 1) := by
  refine ⟨_, h, ?_, ?_⟩
  · show imn 9 (s.2.1 + gI S 5 4) = _
    rw [h2]; rfl
  · show md (s.2.2.2 + 1) 24 = _
    rw [h3]; rfl
theorem c73p {g : Mm → Prop} {k : Nat} {N : M2} (hd : 1 ≤ d) (hh : HgK S N k) (q : ∀ N', agr (fr [44]) N N' → HgK S N' (k + 1) → g (FR b, N')) : WP d 107 73 0 [.ref 44] [] 107 (FR b, N) (rV g) := by
  obtain ⟨s, h1, h2, h3⟩ := hh
  exact c73 (S := S) hd (by decide) rfl h1 (fun N' hN' hs => q N' hN' (hgK_s hs h2 h3))
theorem n1000 : ¬ (0 : Int32) = -1000 := by decide
theorem c88 {g : Mm → Prop} {N : M2} (hd : 7 ≤ d) (hI : INV b S) (hA : agr (pC b) S N) (hB : B < 1024) (ha : a ≤ 2) (hn : n ≤ 12) (hP : PrK a B set n N) (h47 : ∀ j, j < 3328 → gI N 47 j = bif Nat.beq j (st0 S) then 0 else -1000) (q : ∀ N' n', agr (fr [17, 43, 44, 46, 47]) N N' → PrK a B set n' N' → n' ≤ 12 → (a ≠ 0 → n' = n) → (a = 0 → n = 12 → ((n' = 0 ∧ ∀ k, k < 12 → ¬ sayP b S B (st0 S) set k) ∨ (1 ≤ n' ∧ sayP b S B (st0 S) set (n' - 1) ∧ ∀ k, k < n' - 1 → ¬ sayP b S B (st0 S) set k))) → (∀ k, k ≤ n' → RwK b S B k N') → (∀ k, k < n' → SdK b S B k N') → g (FR b, N')) : WP d 107 88 0 [.ref 43, .ref 5, .ref 7, U, U, U] [] 107 (FR b, N) (rV g) := by
  obtain ⟨d, rfl⟩ := ex1 (e := 6) hd
  have hs0 := st0_lt hI.2.1.1
  have a0 : (nI a = 0) ↔ a = 0 := by
    have := (ix_eq (x := nI a) (n := 0) (by decide))
    rw [ix_n (by omega)] at this
    exact this
  have l : ∀ m k (N2 : M2) (u4 u5 : Value), k + m = n → agr (fr [17, 43, 44, 46, 47]) N N2 → PrK a B set n N2 → HgK S N2 k → (∀ j, j ≤ k → RwK b S B j N2) → (∀ j, (k + 1) * 256 ≤ j → j < 3328 → gI N2 47 j = -1000) → (∀ j, j < k → SdK b S B j N2) → (a = 0 → ∀ j, j < k → ¬ sayP b S B (st0 S) set j) → WP (d + 1) 107 88 10 [.ref 43, .ref 5, .ref 7, .int (nI k), u4, u5] [] 107 (FR b, N2) (rV g) := by
    intro m
    induction m with
    | zero =>
      intro k N2 u4 u5 hk hF hP2 hh hrw hbe hsd hno
      have : k = n := by omega
      subst this
      refine v88_10 (brK_t (by rw [hP2.2.2.2, i_le]; exact Int.le_refl _) ?_)
      rw [hP2.1]
      refine ⟨fun z => ?_, fun z => ?_⟩
      · have z := a0.mp z
        refine q _ 0 (agr_sI rfl hF) ⟨hP2.1, hP2.2.1, hP2.2.2.1, gI_s ..⟩ (by omega) (fun e => absurd z e) (fun _ h12 => Or.inl ⟨rfl, fun j hj => hno z j (by omega)⟩) (fun j hj => ?_) (fun j hj => absurd hj (by omega))
        have : j = 0 := by omega
        subst this
        intro s hs
        exact hrw 0 (by omega) s hs
      · exact q N2 k hF hP2 hn (fun _ => rfl) (fun e => absurd (a0.mpr e) z) hrw hsd
    | succ m ih =>
      intro k N2 u4 u5 hk hF hP2 hh hrw hbe hsd hno
      refine v88_10 (brK_f (by rw [hP2.2.2.2, nI_leI (by omega) (by omega)]; omega) ?_)
      have hq : ∀ s'', s'' < 256 → (k + 1) * 256 + s'' < 3328 := fun s'' h => by omega
      have inner : ∀ m' s (N3 : M2) (v : Int32), s + m' = 256 → agr (fr [17, 44, 46, 47]) N2 N3 → HgK S N3 k → (∀ j, j < (k + 1) * 256 → gI N3 47 j = gI N2 47 j) → (∀ s'', s'' < 256 → ((∃ s', s' < s ∧ rcP b S B (st0 S) k s' ∧ ∃ r, r < 10 ∧ B.testBit r = true ∧ nxK b S k s' r = s'') → gI N3 47 ((k + 1) * 256 + s'') = 0) ∧ ((¬ ∃ s', s' < s ∧ rcP b S B (st0 S) k s' ∧ ∃ r, r < 10 ∧ B.testBit r = true ∧ nxK b S k s' r = s'') → gI N3 47 ((k + 1) * 256 + s'') = -1000)) → (∀ j, (k + 2) * 256 ≤ j → j < 3328 → gI N3 47 j = -1000) → (∀ j, j < k * 256 → gL N3 46 j = gL N2 46 j) → (∀ s', s' < s → rcP b S B (st0 S) k s' → ∀ r, r < 10 → B.testBit r = true → nbL (gL N3 46 (k * 256 + s')) r = nI (sK b S k s' r)) → ((v = 1 ∧ ∃ s', s' < s ∧ rcP b S B (st0 S) k s' ∧ ∃ r, r < 10 ∧ B.testBit r = true ∧ btN set (sK b S k s' r) = 1) ∨ (v = 0 ∧ ¬ ∃ s', s' < s ∧ rcP b S B (st0 S) k s' ∧ ∃ r, r < 10 ∧ B.testBit r = true ∧ btN set (sK b S k s' r) = 1)) → WP (d + 1) 107 88 24 [.ref 43, .ref 5, .ref 7, .int (nI k), .int v, .int (nI s)] [] 107 (FR b, N3) (rV g) := by
        intro m'
        induction m' with
        | zero =>
          intro s N3 v hs hF3 hh3 hlow hrow hbe3 h46 hnib hv
          have : s = 256 := by omega
          subst this
          have hF4 : agr (fr [17, 43, 44, 46, 47]) N N3 := agr_t hF (fr_s (by decide) hF3)
          have hP3 := PrK_a (l := [17, 44, 46, 47]) rfl hF3 hP2
          have rw3 : ∀ j, j ≤ k + 1 → RwK b S B j N3 := by
            intro j hj s hs
            by_cases e : j = k + 1
            · subst e
              exact hrow s hs
            · have := hrw j (by omega) s hs
              rw [hlow _ (by omega)]
              exact this
          have sd3 : ∀ j, j < k + 1 → SdK b S B j N3 := by
            intro j hj s hs hr r h1 h2
            by_cases e : j = k
            · subst e
              exact hnib s hs hr r h1 h2
            · rw [h46 _ (by omega)]
              exact hsd j (by omega) s hs hr r h1 h2
          have goon : (a = 0 → ¬ sayP b S B (st0 S) set k) → ∀ u4 u5, WP d 107 73 0 [.ref 44] [] 107 (FR b, N3) (rV (fun N1 => N1.1 = FR b ∧ WP (d + 1) 107 88 10 [.ref 43, .ref 5, .ref 7, .int (nI k + 1), u4, u5] [] 107 (FR b, N1.2) (rV g))) := by
            intro hz u4 u5
            refine c73p (by omega) hh3 (fun N4 hN4 hh4 => ⟨rfl, ?_⟩)
            rw [nI_1]
            refine ih (k + 1) N4 _ _ (by omega) (agr_t hF4 (fr_s (by decide) hN4)) (PrK_a (l := [44]) rfl hN4 hP3) hh4 (fun j hj s hs => by rw [agr_nI hN4 rfl]; exact rw3 j hj s hs) (fun j h1 h2 => by rw [agr_nI hN4 rfl]; exact hbe3 j h1 h2) (fun j hj s hs hr r h1 h2 => by rw [agr_nL hN4 rfl]; exact sd3 j hj s hs hr r h1 h2) (fun z j hj => ?_)
            by_cases e : j = k
            · subst e; exact hz z
            · exact hno z j (by omega)
          refine v88_24 (brK_t (by decide) ?_)
          rw [hP3.1]
          refine ⟨fun z => ?_, fun z => goon (fun e => absurd (a0.mpr e) z) _ _⟩
          have z := a0.mp z
          rcases hv with ⟨e, hs⟩ | ⟨e, hs⟩
          · subst e
            refine brK_f (by decide) ?_
            rw [nI_1]
            refine q _ (k + 1) (agr_sI rfl hF4) ⟨hP3.1, hP3.2.1, hP3.2.2.1, gI_s ..⟩ (by omega) (fun e => absurd z e) (fun _ _ => Or.inr ⟨by omega, ?_, fun j hj => hno z j (by omega)⟩) (fun j hj s hs => rw3 j hj s hs) (fun j hj => sd3 j hj)
            obtain ⟨s', h1, h2, h3⟩ := hs
            exact ⟨s', h1, h2, h3⟩
          · subst e
            exact brK_t rfl (goon (fun _ h => hs h) _ _)
        | succ m' ihm =>
          intro s N3 v hs hF3 hh3 hlow hrow hbe3 h46 hnib hv
          have hF4 : agr (fr [17, 43, 44, 46, 47]) N N3 := agr_t hF (fr_s (by decide) hF3)
          have hP3 := PrK_a (l := [17, 44, 46, 47]) rfl hF3 hP2
          have hA3 : agr (pC b) S N3 := agr_t hA (frp_pC (fr_s (by decide) hF4))
          refine v88_24 (brK_f (by rw [show (256 : Int32) = nI 256 from rfl, nI_leI (by decide) (by omega)]; omega) ?_)
          rw [k256 (by omega) (by omega), nI_1]
          refine c89 (by omega) (by omega) ⟨rfl, ?_⟩
          rw [hlow (k * 256 + s) (by omega)]
          have hrs := hrw k (Nat.le_refl _) s (by omega)
          by_cases hrc : rcP b S B (st0 S) k s
          · rw [hrs.1 hrc]
            refine brK_f n1000 (c90 (a := a) (n := n) (B := B) (set := set) (S := S) (by omega) hI hA3 hB (by omega) (by omega) hP3 hh3 (fun N4 w hN4 hh4 g46 gnb g47 go hw => ⟨rfl, ?_⟩))
            have nx : ∀ v', ((v' = 1 ∧ ∃ s', s' < s + 1 ∧ rcP b S B (st0 S) k s' ∧ ∃ r, r < 10 ∧ B.testBit r = true ∧ btN set (sK b S k s' r) = 1) ∨ (v' = 0 ∧ ¬ ∃ s', s' < s + 1 ∧ rcP b S B (st0 S) k s' ∧ ∃ r, r < 10 ∧ B.testBit r = true ∧ btN set (sK b S k s' r) = 1)) → WP (d + 1) 107 88 24 [.ref 43, .ref 5, .ref 7, .int (nI k), .int v', .int (nI (s + 1))] [] 107 (FR b, N4) (rV g) := by
              intro v' hv'
              refine ihm (s + 1) N4 v' (by omega) (agr_t hF3 hN4) hh4 (fun j hj => ?_) (fun s'' hs'' => ⟨fun ⟨s', h1, h2, r, h3, h4, h5⟩ => ?_, fun hne => ?_⟩) (fun j h1 h2 => ?_) (fun j hj => ?_) (fun s' h1 h2 r h3 h4 => ?_) hv'
              · have := @nxK_lt b S k
                rw [go j (fun r _ _ => by omega)]
                exact hlow j hj
              · by_cases e : s' = s
                · subst e
                  rw [← h5]
                  exact g47 r h3 h4
                · by_cases e2 : ∃ r', r' < 10 ∧ B.testBit r' = true ∧ s'' = nxK b S k s r'
                  · obtain ⟨r', f1, f2, f3⟩ := e2
                    rw [f3]
                    exact g47 r' f1 f2
                  · rw [go _ (fun r' f1 f2 f3 => e2 ⟨r', f1, f2, by omega⟩)]
                    exact (hrow s'' hs'').1 ⟨s', by omega, h2, r, h3, h4, h5⟩
              · rw [go _ (fun r' f1 f2 f3 => hne ⟨s, by omega, hrc, r', f1, f2, by omega⟩)]
                exact (hrow s'' hs'').2 (fun ⟨s', h1, h2⟩ => hne ⟨s', by omega, h2⟩)
              · rw [go j (fun r _ _ => by have := @nxK_lt b S k s r; omega)]
                exact hbe3 j h1 h2
              · rw [g46 j (by omega)]
                exact h46 j hj
              · by_cases e : s' = s
                · subst e
                  exact gnb r h3 h4
                · rw [g46 _ (by omega)]
                  exact hnib s' (by omega) h2 r h3 h4
            rcases hw with ⟨e, hsay⟩ | ⟨e, hsay⟩
            · subst e
              exact brK_f (by decide) (nx 1 (Or.inl ⟨rfl, s, by omega, hrc, hsay⟩))
            · subst e
              refine brK_t rfl (nx v ?_)
              rcases hv with ⟨e, s', h1, h2⟩ | ⟨e, h⟩
              · exact Or.inl ⟨e, s', by omega, h2⟩
              · refine Or.inr ⟨e, fun ⟨s', h1, h2, h3⟩ => ?_⟩
                by_cases e : s' = s
                · subst e; exact hsay h3
                · exact h ⟨s', by omega, h2, h3⟩
          · rw [hrs.2 hrc]
            refine brK_t rfl ?_
            refine ihm (s + 1) N3 v (by omega) hF3 hh3 hlow (fun s'' hs'' => ⟨fun ⟨s', h1, h2, h3⟩ => ?_, fun hne => ?_⟩) hbe3 h46 (fun s' h1 h2 => ?_) ?_
            · by_cases e : s' = s
              · subst e; exact absurd h2 hrc
              · exact (hrow s'' hs'').1 ⟨s', by omega, h2, h3⟩
            · exact (hrow s'' hs'').2 (fun ⟨s', h1, h2⟩ => hne ⟨s', by omega, h2⟩)
            · by_cases e : s' = s
              · subst e; exact absurd h2 hrc
              · exact hnib s' (by omega) h2
            · rcases hv with ⟨e, s', h1, h2⟩ | ⟨e, h⟩
              · exact Or.inl ⟨e, s', by omega, h2⟩
              · refine Or.inr ⟨e, fun ⟨s', h1, h2, h3⟩ => ?_⟩
                by_cases e : s' = s
                · subst e; exact absurd h2 hrc
                · exact h ⟨s', by omega, h2, h3⟩
      refine inner 256 0 N2 0 (by omega) (agr_r N2) hh (fun j hj => rfl) (fun s'' hs'' => ⟨fun ⟨s', h, _⟩ => absurd h (by omega), fun _ => hbe ((k + 1) * 256 + s'') (Nat.le_add_right _ _) (hq s'' hs'')⟩) (fun j h1 h2 => hbe j (Nat.le_trans (Nat.mul_le_mul_right 256 (Nat.le_succ (k + 1))) h1) h2) (fun j hj => rfl) (fun s' h => absurd h (by omega)) (Or.inr ⟨rfl, fun ⟨s', h, _⟩ => absurd h (by omega)⟩)
  refine v88_0 (c68 (S := S) (by omega) (by decide) rfl (by decide) hA (fun N1 hN1 hs1 => ⟨rfl, ?_⟩))
  refine l n 0 N1 _ _ (by omega) (fr_s (by decide) hN1) (PrK_a (l := [44]) rfl hN1 hP) ⟨_, hs1, rfl, rfl⟩ (fun j hj => ?_) (fun j h1 h2 => ?_) (fun j hj => absurd hj (by omega)) (fun _ j hj => absurd hj (by omega))
  · have : j = 0 := by omega
    subst this
    intro s hs
    rw [agr_nI hN1 rfl, Nat.zero_mul, Nat.zero_add, h47 s (by omega)]
    refine ⟨fun h => ?_, fun h => ?_⟩
    · have h : s = st0 S := h
      rw [h, Nat.beq_refl]; rfl
    · have h : ¬ s = st0 S := h
      rw [show Nat.beq s (st0 S) = false from by
        cases hb : Nat.beq s (st0 S) with
        | false => rfl
        | true => exact absurd (Nat.eq_of_beq_eq_true hb) h]
      rfl
  · rw [agr_nI hN1 rfl, h47 j h2, show Nat.beq j (st0 S) = false from by
      cases hb : Nat.beq j (st0 S) with
      | false => rfl
      | true => have := Nat.eq_of_beq_eq_true hb; omega]
    rfl
/-- ageTo -/
theorem c94 {g : Mm → Prop} {k : Nat} {N : M2} (hd : 2 ≤ d) (hA : agr (pC b) S N) (hk : k ≤ 100) (q : ∀ N', agr (fr [44]) N N' → HgK S N' k → g (FR b, N')) : WP d 107 94 0 [.ref 43, .ref 5, .int (nI k), U] [] 107 (FR b, N) (rV g) := by
  obtain ⟨d, rfl⟩ := ex1 (e := 1) hd
  have l : ∀ m j (N2 : M2), j + m = k → agr (fr [44]) N N2 → HgK S N2 j → WP (d + 1) 107 94 10 [.ref 43, .ref 5, .int (nI k), .int (nI j)] [] 107 (FR b, N2) (rV g) := by
    intro m
    induction m with
    | zero =>
      intro j N2 hj hF hh
      have : j = k := by omega
      subst this
      exact v94_10 (brK_t (by rw [i_le]; exact Int.le_refl _) (q N2 hF hh))
    | succ m ih =>
      intro j N2 hj hF hh
      refine v94_10 (brK_f (by rw [nI_leI (by omega) (by omega)]; omega) (c73p (by omega) hh (fun N3 hN3 hh3 => ⟨rfl, ?_⟩)))
      rw [nI_1]
      exact ih (j + 1) N3 (by omega) (agr_t hF hN3) hh3
  refine v94_0 (c68 (S := S) (by omega) (by decide) rfl (by decide) hA (fun N1 hN1 hs1 => ⟨rfl, ?_⟩))
  exact l k 0 N1 (by omega) hN1 ⟨_, hs1, rfl, rfl⟩
theorem c97 {f : Int32 → Mm → Prop} {k s r : Nat} {N : M2} {s4 : St} (hd : 2 ≤ d) (ha : a ≤ 2) (hn : n ≤ 12) (hk : k < n) (hP : PrK a B set n N) (hw : HW S N 44 s4) (h1 : s4.2.1 = hgK S k) (h2 : s4.2.2.1 = nI (s % 16)) (q : ∀ v : Int32, v.toInt = ptK b S a set n k s r → f v (FR b, N)) : WP d 107 97 0 [.ref 43, .int (nI k), .int (nI (sK b S k s r))] [] 107 (FR b, N) (rI f) := by
  obtain ⟨d, rfl⟩ := ex1 (e := 1) hd
  have ea : ∀ c, c < 3 → (nI a = nI c ↔ a = c) := fun c hc => nI_eq (by omega) (by omega)
  have a2 : nI a = 2 ↔ a = 2 := ea 2 (by decide)
  have a0 : nI a = 0 ↔ a = 0 := ea 0 (by decide)
  have beq : ∀ c, (Nat.beq a c = true ↔ a = c) := fun c => ⟨fun h => Nat.eq_of_beq_eq_true h, fun h => by rw [h]; exact Nat.beq_refl c⟩
  have beqf : ∀ c, a ≠ c → Nat.beq a c = false := fun c h => by
    cases hb : Nat.beq a c with
    | false => rfl
    | true => exact absurd ((beq c).mp hb) h
  have eb : ((set >>> (nI (sK b S k s r) &&& 31)) &&& 1 : Int32) = nI (btN set (sK b S k s r)) := btN_e set _
  have hbt := btN_1 set (sK b S k s r)
  have tb : (nI (btN set (sK b S k s r))).toInt = (btN set (sK b S k s r) : Int) := nI_toInt (by omega)
  refine v97_0 ?_
  rw [hP.1, hP.2.1, hP.2.2.2, eb]
  refine ⟨fun z => c72 (S := S) (by omega) (by decide) rfl hw ⟨rfl, ?_⟩, fun z => ⟨fun z0 => ⟨fun y => ?_, fun y => ?_⟩, fun z0 => ?_⟩⟩
  · have z := a2.mp z
    have el : lmS S s4 (nI (sK b S k s r)) = lpK b S k s r := by
      unfold lpK lmS
      rw [h1, h2]
    rw [el]
    have ep : ptK b S a set n k s r = bif lpK b S k s r then -1 else 0 := by unfold ptK; rw [(beq 2).mpr z]; rfl
    refine brK_b (fun y => q 0 ?_) (fun y => q (-1) ?_)
    · rw [ep, y]; rfl
    · rw [ep, y]; rfl
  · have z0 := a0.mp z0
    have e1 : nI n - 1 = nI (n - 1) := nI_sub (b := 1) (by omega)
    rw [e1, nI_leI (by omega) (by omega)] at y
    refine q _ ?_
    rw [tb]
    unfold ptK
    rw [beqf 2 (by omega), (beq 0).mpr z0, blt_f.mpr (by omega)]
    rfl
  · have z0 := a0.mp z0
    have e1 : nI n - 1 = nI (n - 1) := nI_sub (b := 1) (by omega)
    rw [e1, nI_leI (by omega) (by omega)] at y
    refine q _ ?_
    unfold ptK
    rw [beqf 2 (by omega), (beq 0).mpr z0, blt_i.mpr (by omega)]
    rfl
  · refine q _ ?_
    rw [tb]
    unfold ptK
    rw [beqf 2 (fun e => z (a2.mpr e)), beqf 0 (fun e => z0 (a0.mpr e))]
    rfl
/-- worthBy -/
theorem c95 {f : Int32 → Mm → Prop} {k s r : Nat} {N : M2} (hd : 3 ≤ d) (ha : a ≤ 2) (hB : B < 1024) (hB2 : ∃ r, r < 10 ∧ B.testBit r = true) (hn : n ≤ 12) (hk : k < n) (hs : s < 256) (hr : r < 10) (hP : PrK a B set n N) (hh : HgK S N k) (hrc : rcP b S B (st0 S) k s) (hsd : SdK b S B k N) (hwt : WtK b S a B set n (k + 1) N) (q : ∀ N' v, agr (fr [44]) N N' → HgK S N' k → ((B.testBit r = true ∧ v.toInt = ptK b S a set n k s r + wtK b S a B set n (k + 1) (nxK b S k s r)) ∨ (B.testBit r = false ∧ v = -1000)) → f v (FR b, N')) : WP d 107 95 0 [.ref 43, .int (nI k), .int (nI s), .int (nI r), U] [] 107 (FR b, N) (rI f) := by
  obtain ⟨d, rfl⟩ := ex1 (e := 2) hd
  obtain ⟨s4, hw, h1, h2⟩ := hh
  refine v95_0 ?_
  rw [hP.2.2.1, k256 (by omega) (by omega)]
  refine ⟨fun z => ?_, fun z => c96 (by omega) (by omega) ⟨rfl, ?_⟩⟩
  · exact q N (-1000) (agr_r N) ⟨s4, hw, h1, h2⟩ (Or.inr ⟨(bt_01 hB (by omega)).mp z, rfl⟩)
  · have z : B.testBit r = true := by
      cases hz : B.testBit r with
      | true => rfl
      | false => exact absurd ((bt_01 hB (by omega)).mpr hz) z
    have e17 : (nI s - nI s / 16 * 16 : Int32) = nI (s % 16) := nI_md (b := 16) (by omega) (by decide)
    have hsk := @sK_lt b S k s r
    have hnx := @nxK_lt b S k s r
    rw [hsd s hs hrc r hr z, e17, sF_eq]
    have hw2 : HW S (sI N 44 2 (nI (s % 16))) 44 (s4.1, s4.2.1, nI (s % 16), s4.2.2.2) := by
      refine ⟨⟨?_, ?_, gI_s .., ?_, ?_⟩, ?_, ?_⟩
      · rw [gI_oj (by decide)]; exact hw.1.1
      · rw [gI_oj (by decide)]; exact hw.1.2.1
      · rw [gI_oj (by decide)]; exact hw.1.2.2.2.1
      · rw [gI_oj (by decide)]; exact hw.1.2.2.2.2
      · rw [gI_oj (by decide)]; exact hw.2.1
      · rw [gI_oj (by decide)]; exact hw.2.2
    have hF : agr (fr [44]) N (sI N 44 2 (nI (s % 16))) := agr_sI rfl (agr_r N)
    refine c97 (b := b) (S := S) (a := a) (B := B) (set := set) (n := n) (k := k) (s := s) (r := r) (by omega) ha hn hk (PrK_a (l := [44]) rfl hF hP) hw2 h1 rfl (fun p hp => ⟨rfl, c92 (by omega) (by omega) (by omega) (by omega) ⟨rfl, ?_⟩⟩)
    have enx : (s / 16 + sK b S k s r + r) % 16 * 16 + sK b S k s r = nxK b S k s r := rfl
    rw [enx, nI_1 k, k256 (k := k + 1) (s := nxK b S k s r) (by omega) (by omega)]
    refine c89 (by omega) (by omega) ⟨rfl, ?_⟩
    have hrc2 : rcP b S B (st0 S) (k + 1) (nxK b S k s r) := ⟨s, hs, hrc, r, hr, z, rfl⟩
    have w1 := (hwt (nxK b S k s r) hnx).1 hrc2
    have bd := wt_bd (b := b) (S := S) (a := a) (set := set) hB2 hn (k + 1) (nxK b S k s r)
    have pb := ptK_bd b S a set n k s r
    have e47 : gI (sI N 44 2 (nI (s % 16))) 47 ((k + 1) * 256 + nxK b S k s r) = gI N 47 ((k + 1) * 256 + nxK b S k s r) := gI_or (by decide)
    dsimp only
    rw [e47]
    refine q _ _ hF ⟨_, hw2, h1, h2⟩ (Or.inl ⟨z, ?_⟩)
    rw [add_toInt (by rw [hp, w1]; omega) (by rw [hp, w1]; omega), hp, w1]
end PLANNER2
