/-! THE CLASS'S PLANNER -/
theorem frp_pC {b : Bool} {N N' : M2} (h : agr (fr [17, 43, 44, 45, 46, 47]) N N') : agr (pC b) N N' := fr_m (fun a ha j => by
  simp only [List.mem_cons, List.not_mem_nil, or_false] at ha
  rcases ha with e | e | e | e | e | e <;> subst e <;> rfl) h
def st0 (S : M2) : Nat := ix (gI S 5 0) * 16 + ix (gI S 5 2)
theorem st0_lt {S : M2} (hH : HimW S 5) : st0 S < 256 := by
  have h1 : ix (gI S 5 0) < 16 := hH 0 (by decide)
  have h2 : ix (gI S 5 2) < 16 := hH 2 (by decide)
  unfold st0
  omega
theorem k256 {k s : Nat} (hk : k < 100) (hs : s < 1000) : (nI k * 256 + nI s : Int32) = nI (k * 256 + s) := by
  rw [show (256 : Int32) = nI 256 from rfl, nI_mul, nI_add]
def PrK (a B : Nat) (set : Int32) (n : Nat) (N : M2) : Prop := gI N 43 6 = nI a ∧ gI N 43 7 = set ∧ gI N 43 5 = nI B ∧ gI N 43 4 = nI n
theorem PrK_a {a B n : Nat} {set : Int32} {l : List Nat} {N N' : M2} (hl : nin l 43 = true) (h : agr (fr l) N N') (k : PrK a B set n N) : PrK a B set n N' :=
  ⟨(h 43 6 hl).1.trans k.1, (h 43 7 hl).1.trans k.2.1, (h 43 5 hl).1.trans k.2.2.1, (h 43 4 hl).1.trans k.2.2.2⟩
/-- he, a number of hours on -/
def HgK (S N : M2) (k : Nat) : Prop := ∃ s : St, HW S N 44 s ∧ s.2.1 = hgK S k ∧ s.2.2.2 = hrK S k
def RwK (b : Bool) (S : M2) (B k : Nat) (N : M2) : Prop := ∀ s, s < 256 → (rcP b S B (st0 S) k s → gI N 47 (k * 256 + s) = 0) ∧ (¬ rcP b S B (st0 S) k s → gI N 47 (k * 256 + s) = -1000)
def SdK (b : Bool) (S : M2) (B k : Nat) (N : M2) : Prop := ∀ s, s < 256 → rcP b S B (st0 S) k s → ∀ r, r < 10 → B.testBit r = true → nbL (gL N 46 (k * 256 + s)) r = nI (sK b S k s r)
def WtK (b : Bool) (S : M2) (a B : Nat) (set : Int32) (n k : Nat) (N : M2) : Prop := ∀ s, s < 256 → (rcP b S B (st0 S) k s → (gI N 47 (k * 256 + s)).toInt = wtK b S a B set n k s) ∧ (¬ rcP b S B (st0 S) k s → gI N 47 (k * 256 + s) = -1000)
section PLANNER
variable {d : Nat} {b : Bool} {S : M2} {a B n : Nat} {set : Int32}
theorem c87 {g : Mm → Prop} {j : Nat} {v : Int32} {N : M2} (hd : 1 ≤ d) (hj : j < 3328) (q : g (FR b, sI N 47 j v)) : WP d 107 87 0 [.ref 43, .int (nI j), .int v] [] 107 (FR b, N) (rV g) := by
  obtain ⟨d, rfl⟩ := ex1 hd
  refine v87_0 (brK_f (nI_pos (by omega)) (brK_f (by rw [show (3328 : Int32) = nI 3328 from rfl, nI_leI (by decide) (by omega)]; omega) (iK_i (by rw [ix_n (by omega)]; exact hj) ?_)))
  rw [ix_n (by omega)]
  exact q
theorem c89 {f : Int32 → Mm → Prop} {j : Nat} {N : M2} (hd : 1 ≤ d) (hj : j < 3328) (q : f (gI N 47 j) (FR b, N)) : WP d 107 89 0 [.ref 43, .int (nI j)] [] 107 (FR b, N) (rI f) := by
  obtain ⟨d, rfl⟩ := ex1 hd
  refine v89_0 (brK_f (nI_pos (by omega)) (brK_f (by rw [show (3328 : Int32) = nI 3328 from rfl, nI_leI (by decide) (by omega)]; omega) (iK_i (by rw [ix_n (by omega)]; exact hj) ?_)))
  rw [ix_n (by omega)]
  exact q
theorem c92 {f : Int32 → Mm → Prop} {s v r : Nat} {N : M2} (hd : 1 ≤ d) (hs : s < 1000) (hv : v < 1000) (hr : r < 1000) (q : f (nI ((s / 16 + v + r) % 16 * 16 + v)) (FR b, N)) : WP d 107 92 0 [.int (nI s), .int (nI v), .int (nI r)] [] 107 (FR b, N) (rI f) := by
  obtain ⟨d, rfl⟩ := ex1 hd
  refine v92_0 ?_
  have e1 : (nI s / 16 : Int32) = nI (s / 16) := nI_div (b := 16) (by omega) (by decide)
  have e2 : (nI s / 16 + nI v + nI r : Int32) = nI (s / 16 + v + r) := by rw [e1, nI_add, nI_add]
  have e3 : (nI (s / 16 + v + r) - nI (s / 16 + v + r) / 16 * 16 : Int32) = nI ((s / 16 + v + r) % 16) := nI_md (b := 16) (by omega) (by decide)
  rw [e2, e3, show (16 : Int32) = nI 16 from rfl, nI_mul, nI_add]
  exact q
theorem c96 {f : Int32 → Mm → Prop} {j r : Nat} {N : M2} (hd : 1 ≤ d) (hj : j < 3072) (q : f (nbL (gL N 46 j) r) (FR b, N)) : WP d 107 96 0 [.ref 43, .int (nI j), .int (nI r)] [] 107 (FR b, N) (rI f) := by
  obtain ⟨d, rfl⟩ := ex1 hd
  refine v96_0 (brK_f (nI_pos (by omega)) (brK_f (by rw [show (3072 : Int32) = nI 3072 from rfl, nI_leI (by decide) (by omega)]; omega) (iK_i (by rw [ix_n (by omega)]; exact hj) ?_)))
  rw [ix_n (by omega)]
  exact q
theorem c91 {g : Mm → Prop} {j r : Nat} {v : Int32} {N : M2} (hd : 1 ≤ d) (hj : j < 3072) (q : g (FR b, sL N 46 j (stL (gL N 46 j) r v))) : WP d 107 91 0 [.ref 43, .int (nI j), .int (nI r), .int v] [] 107 (FR b, N) (rV g) := by
  obtain ⟨d, rfl⟩ := ex1 hd
  refine v91_0 (brK_f (nI_pos (by omega)) (brK_f (by rw [show (3072 : Int32) = nI 3072 from rfl, nI_leI (by decide) (by omega)]; omega) (iK_i (by rw [ix_n (by omega)]; exact hj) (iK_i (by rw [ix_n (by omega)]; exact hj) ?_))))
  rw [ix_n (by omega)]
  exact q
theorem bt_01 {B r : Nat} (hB : B < 1024) (hr : r < 31) : (bitV (nI B) (nI r) = 0 ↔ B.testBit r = false) := by
  rw [bitV_n (by omega) hr]
  unfold tb
  cases B.testBit r <;> decide
theorem c90 {f : Int32 → Mm → Prop} {k s : Nat} {N : M2} (hd : 5 ≤ d) (hI : INV b S) (hA : agr (pC b) S N) (hB : B < 1024) (hk : k < 12) (hs : s < 256) (hP : PrK a B set n N) (hh : HgK S N k) (q : ∀ N' v, agr (fr [17, 44, 46, 47]) N N' → HgK S N' k → (∀ j, j ≠ k * 256 + s → gL N' 46 j = gL N 46 j) → (∀ r, r < 10 → B.testBit r = true → nbL (gL N' 46 (k * 256 + s)) r = nI (sK b S k s r)) → (∀ r, r < 10 → B.testBit r = true → gI N' 47 ((k + 1) * 256 + nxK b S k s r) = 0) → (∀ j, (∀ r, r < 10 → B.testBit r = true → j ≠ (k + 1) * 256 + nxK b S k s r) → gI N' 47 j = gI N 47 j) → ((v = 1 ∧ ∃ r, r < 10 ∧ B.testBit r = true ∧ btN set (sK b S k s r) = 1) ∨ (v = 0 ∧ ¬ ∃ r, r < 10 ∧ B.testBit r = true ∧ btN set (sK b S k s r) = 1)) → f v (FR b, N')) : WP d 107 90 0 [.ref 43, .int (nI k), .int (nI s), .ref 7, U, U, U] [] 107 (FR b, N) (rI f) := by
  obtain ⟨d, rfl⟩ := ex1 (e := 4) hd
  have hL : LawR b S := hI.2.2.2.2.2.2.2.2.2
  obtain ⟨s4, hw, hg, hr4⟩ := hh
  have e16 : (nI s / 16 : Int32) = nI (s / 16) := nI_div (b := 16) (by omega) (by decide)
  have e17 : (nI s - nI s / 16 * 16 : Int32) = nI (s % 16) := nI_md (b := 16) (by omega) (by decide)
  have hidx := k256 (k := k) (s := s) (by omega) (by omega)
  have pc : ∀ {N' : M2}, agr (fr [17, 44, 46, 47]) N N' → agr (pC b) S N' := fun h => agr_t hA (frp_pC (fr_s (by decide) h))
  have l : ∀ m r (N2 : M2) (v : Int32) (u6 : Value), r + m = 10 → agr (fr [17, 44, 46, 47]) N N2 → HW S N2 44 (nI (s / 16), hgK S k, nI (s % 16), hrK S k) → (∀ j, j ≠ k * 256 + s → gL N2 46 j = gL N 46 j) → (∀ r', r' < r → B.testBit r' = true → nbL (gL N2 46 (k * 256 + s)) r' = nI (sK b S k s r')) → (∀ r', r' < r → B.testBit r' = true → gI N2 47 ((k + 1) * 256 + nxK b S k s r') = 0) → (∀ j, (∀ r', r' < r → B.testBit r' = true → j ≠ (k + 1) * 256 + nxK b S k s r') → gI N2 47 j = gI N 47 j) → ((v = 1 ∧ ∃ r', r' < r ∧ B.testBit r' = true ∧ btN set (sK b S k s r') = 1) ∨ (v = 0 ∧ ¬ ∃ r', r' < r ∧ B.testBit r' = true ∧ btN set (sK b S k s r') = 1)) → WP (d + 1) 107 90 28 [.ref 43, .int (nI k), .int (nI s), .ref 7, .int v, .int (nI r), u6] [] 107 (FR b, N2) (rI f) := by
    intro m
    induction m with
    | zero =>
      intro r N2 v u6 hr hF hw2 h46 hnb h47 ho hv
      have : r = 10 := by omega
      subst this
      exact v90_28 (brK_t (by decide) (iK_i (by rcases hv with ⟨e, _⟩ | ⟨e, _⟩ <;> subst e <;> decide) (q N2 v hF ⟨_, hw2, rfl, rfl⟩ h46 hnb h47 ho hv)))
    | succ m ih =>
      intro r N2 v u6 hr hF hw2 h46 hnb h47 ho hv
      have hP2 := PrK_a (l := [17, 44, 46, 47]) rfl hF hP
      refine v90_28 (brK_f (by rw [show (10 : Int32) = nI 10 from rfl, nI_leI (by decide) (by omega)]; omega) ?_)
      rw [hP2.2.2.1, hidx, nI_1]
      refine ⟨fun z => ?_, fun z => c60 (S := S) (by omega) (by decide) rfl hL (pc hF) hw2.1 (fun N3 hN3 => ⟨rfl, c91 (by omega) (by omega) ⟨rfl, ?_⟩⟩)⟩
      · have z := (bt_01 hB (by omega)).mp z
        refine ih (r + 1) N2 v _ (by omega) hF hw2 h46 (fun r' h1 h2 => ?_) (fun r' h1 h2 => ?_) (fun j hj => ho j (fun r' h1 h2 => hj r' (by omega) h2)) ?_
        · by_cases e : r' = r
          · subst e; rw [z] at h2; exact absurd h2 (by decide)
          · exact hnb r' (by omega) h2
        · by_cases e : r' = r
          · subst e; rw [z] at h2; exact absurd h2 (by decide)
          · exact h47 r' (by omega) h2
        · rcases hv with ⟨e, r', h1, h2⟩ | ⟨e, h⟩
          · exact Or.inl ⟨e, r', by omega, h2⟩
          · refine Or.inr ⟨e, fun ⟨r', h1, h2, h3⟩ => ?_⟩
            by_cases e : r' = r
            · subst e; rw [z] at h2; exact absurd h2 (by decide)
            · exact h ⟨r', by omega, h2, h3⟩
      · have z : B.testBit r = true := by
          cases hz : B.testBit r with
          | true => rfl
          | false => exact absurd ((bt_01 hB (by omega)).mpr hz) z
        have esK : sayV b S (nI (s / 16), hgK S k, nI (s % 16), hrK S k) (tmV S) (nI r) = nI (sK b S k s r) := (n_ix _).symm
        have hsk := @sK_lt b S k s r
        have hnx := @nxK_lt b S k s r
        rw [esK]
        refine c92 (by omega) (by omega) (by omega) (by omega) ⟨rfl, ?_⟩
        have enx : (s / 16 + sK b S k s r + r) % 16 * 16 + sK b S k s r = nxK b S k s r := rfl
        rw [enx, nI_1 k, k256 (k := k + 1) (s := nxK b S k s r) (by omega) (by omega)]
        refine c87 (by omega) (by omega) ⟨rfl, ?_⟩
        dsimp only
        have hP3 : gI (sI (sL N3 46 (k * 256 + s) (stL (gL N3 46 (k * 256 + s)) r (nI (sK b S k s r)))) 47 ((k + 1) * 256 + nxK b S k s r) 0) 43 7 = set := by
          rw [gI_or (by decide)]
          show gI N3 43 7 = set
          rw [agr_nI hN3 rfl]
          exact hP2.2.1
        rw [hP3]
        have eb : ((set >>> (nI (sK b S k s r) &&& 31)) &&& 1 : Int32) = nI (btN set (sK b S k s r)) := btN_e set _
        rw [eb]
        have nx : ∀ v' u', ((v' = 1 ∧ ∃ r', r' < r + 1 ∧ B.testBit r' = true ∧ btN set (sK b S k s r') = 1) ∨ (v' = 0 ∧ ¬ ∃ r', r' < r + 1 ∧ B.testBit r' = true ∧ btN set (sK b S k s r') = 1)) → WP (d + 1) 107 90 28 [.ref 43, .int (nI k), .int (nI s), .ref 7, .int v', .int (nI (r + 1)), u'] [] 107 (FR b, sI (sL N3 46 (k * 256 + s) (stL (gL N3 46 (k * 256 + s)) r (nI (sK b S k s r)))) 47 ((k + 1) * 256 + nxK b S k s r) 0) (rI f) := by
          intro v' u' hv'
          refine ih (r + 1) _ v' u' (by omega) (agr_sI rfl (agr_sL rfl (agr_t hF (fr_s (by decide) hN3)))) (HW_a (fun j => by rw [gI_or (by decide)]; exact agr_nI hN3 rfl) hw2) (fun j hj => ?_) (fun r' h1 h2 => ?_) (fun r' h1 h2 => ?_) (fun j hj => ?_) hv'
          · show gL (sL N3 46 (k * 256 + s) _) 46 j = _
            rw [gL_o (fun e => hj e.2), agr_nL hN3 rfl]
            exact h46 j hj
          · show nbL (gL (sL N3 46 (k * 256 + s) _) 46 (k * 256 + s)) r' = _
            rw [gL_s]
            by_cases e : r' = r
            · subst e; exact nb_st_s (by omega) hsk
            · rw [nb_st_o (by omega) (by omega) e hsk, agr_nL hN3 rfl]
              exact hnb r' (by omega) h2
          · by_cases e : (k + 1) * 256 + nxK b S k s r' = (k + 1) * 256 + nxK b S k s r
            · rw [e]; exact gI_s ..
            · rw [gI_oj e]
              show gI N3 47 _ = 0
              rw [agr_nI hN3 rfl]
              by_cases e2 : r' = r
              · subst e2; exact absurd rfl e
              · exact h47 r' (by omega) h2
          · rw [gI_oj (hj r (by omega) z)]
            show gI N3 47 j = _
            rw [agr_nI hN3 rfl]
            exact ho j (fun r' h1 h2 => hj r' (by omega) h2)
        have hbt := btN_1 set (sK b S k s r)
        rcases hv with ⟨e, r', h1, h2⟩ | ⟨e, h⟩
        · subst e
          exact brK_f (by decide) (nx 1 _ (Or.inl ⟨rfl, r', by omega, h2⟩))
        · subst e
          refine brK_t rfl ⟨fun y => nx 0 _ (Or.inr ⟨rfl, fun ⟨r', h1, h2, h3⟩ => ?_⟩), fun y => nx 1 _ (Or.inl ⟨rfl, r, by omega, z, ?_⟩)⟩
          · by_cases e : r' = r
            · subst e
              rw [h3] at y
              exact absurd y (by decide)
            · exact h ⟨r', by omega, h2, h3⟩
          · rcases hbt with e | e
            · exact absurd (by rw [e]; rfl) y
            · exact e
  refine v90_0 ?_
  rw [e17, e16, sF_eq, sF_eq]
  refine l 10 0 _ 0 _ (by omega) (agr_sI rfl (agr_sI rfl (agr_r N))) ?_ (fun j hj => rfl) (fun r' h => absurd h (by omega)) (fun r' h => absurd h (by omega)) (fun j hj => rfl) (Or.inr ⟨rfl, fun ⟨r', h, _⟩ => absurd h (by omega)⟩)
  refine ⟨⟨?_, ?_, gI_s .., ?_, ?_⟩, ?_, ?_⟩
  · rw [gI_oj (by decide)]; exact gI_s ..
  · rw [gI_oj (by decide), gI_oj (by decide), hw.1.2.1, hg]
  · rw [gI_oj (by decide), gI_oj (by decide), hw.1.2.2.2.1, hr4]
  · rw [gI_oj (by decide), gI_oj (by decide)]; exact hw.1.2.2.2.2
  · rw [gI_oj (by decide), gI_oj (by decide)]; exact hw.2.1
  · rw [gI_oj (by decide), gI_oj (by decide)]; exact hw.2.2
end PLANNER
