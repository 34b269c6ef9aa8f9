section PAIRS
variable {b : Bool} {M : M2}
/-- the image, as the class keeps it -/
def imgC (M : M2) : M2 := sI (sI (sI (sI (sI (sI (sI (sI (sI (sI M 33 5 1) 34 0 (gI M 5 0)) 34 1 (gI M 5 1)) 34 2 (gI M 5 2)) 34 3 (gI M 5 3)) 34 4 (gI M 33 0)) 34 5 (gI M 33 1)) 34 6 (gI M 33 2)) 34 7 (gI M 33 3)) 34 8 (gI M 33 4)
theorem lt4 {j : Nat} (h : j < 4) : j = 0 ∨ j = 1 ∨ j = 2 ∨ j = 3 := by omega
theorem lt5 {j : Nat} (h : j < 5) : j = 0 ∨ j = 1 ∨ j = 2 ∨ j = 3 ∨ j = 4 := by omega
theorem P_image (hI : INV b M) : PAIR b M 150 276 [.ref 4] [.ref 67, U] := by
  obtain ⟨hS, hH, hV, hSc, hL, hC, hA, hSh, hT, hLw⟩ := id hI
  intro d hd f k
  obtain ⟨d, rfl⟩ := ex1 (e := 199) hd
  obtain ⟨d, rfl⟩ := ex1 (e := 198) (d := d) (by omega)
  refine v150_0 (v151_0 (oK_i (by decide) rfl (oK_i (by decide) rfl (oK_i (by decide) rfl (oK_i (by decide) rfl ⟨rfl, ?_⟩)))))
  show f (gI (imgC M) 33 0) (FR b, imgC M)
  refine k _ _ (by funext j; rfl) (fun f2 k2 => v276_0 ?_)
  have := l276_7 (b := b) (d := d + 1) (N := sI (imgC M) 67 54 1) (Q := rI f2) 4 0 rfl
  rw [cpy_0] at this
  refine this ?_
  have e : gI (sI (imgC M) 67 54 1) 98 0 = gI (imgC M) 33 0 := hL.1 0 (by decide)
  rw [e]
  refine k2 _ (INV_led hI ?_ ?_ ?_) (by funext j; rfl)
  · intro q h5 h68 h33 h34 h54 h98 h99 h100
    exact agr_cpy h100 (agr_cpy h99 (agr_sI h54 (agr_sI (h34 _) (agr_sI (h34 _) (agr_sI (h34 _) (agr_sI (h34 _) (agr_sI (h34 _) (agr_sI (h34 _) (agr_sI (h34 _) (agr_sI (h34 _) (agr_sI (h34 _) (agr_sI (h33 _) (agr_r M)))))))))))))
  · exact ⟨fun j hj => hH.1 j hj, fun j hj => hH.2 j hj⟩
  · refine ⟨fun j hj => ?_, Or.inr rfl, rfl, fun j hj => ?_, fun j hj => ?_⟩
    · have := hL.1 j hj
      rcases lt5 hj with h | h | h | h | h <;> subst h <;> exact this
    · have q1 := hH.1 j (by omega)
      have q2 := hH.2 j (by omega)
      rcases lt4 hj with h | h | h | h <;> subst h <;> exact ⟨q1, q2⟩
    · have := hL.1 j hj
      rcases lt5 hj with h | h | h | h | h <;> subst h <;> exact this
theorem l277_37 {d : Nat} {N : M2} {Q : QT} : ∀ m, ∀ n, n + m = 5 → Q (some (.int (gI (cpy N 100 98 5) 98 0))) (FR b, cpy N 100 98 5) → WP (d + 1) 107 277 37 [.ref 67, .int (nI n)] [] 107 (FR b, cpy N 100 98 n) Q := by
  intro m
  induction m with
  | zero =>
    intro n hn k
    have : n = 5 := by omega
    subst this
    exact v277_37 (brK_t (by decide) k)
  | succ m ih =>
    intro n hn k
    refine v277_37 (brK_f (fun q => ?_) (iK_i (by rw [ix_n (by omega)]; omega) (iK_i (by rw [ix_n (by omega)]; omega) ?_)))
    · have := (cnt_lt (n := n) (m := 5) rfl (by decide) (by omega)).mp q
      omega
    · rw [ix_n (by omega), cpy_s N (by decide), ← nI_succ]
      exact ih (n + 1) (by omega) k
theorem l277_12 {d : Nat} {N : M2} {Q : QT} : ∀ m, ∀ n, n + m = 4 → Q (some (.int (gI (cpy (cpy N 99 68 4) 100 98 5) 98 0))) (FR b, cpy (cpy N 99 68 4) 100 98 5) → WP (d + 1) 107 277 12 [.ref 67, .int (nI n)] [] 107 (FR b, cpy N 99 68 n) Q := by
  intro m
  induction m with
  | zero =>
    intro n hn k
    have : n = 4 := by omega
    subst this
    refine v277_12 (brK_t (by decide) ?_)
    have := l277_37 (b := b) (d := d) (N := cpy N 99 68 4) (Q := Q) 5 0 rfl k
    rw [cpy_0] at this
    exact this
  | succ m ih =>
    intro n hn k
    refine v277_12 (brK_f (fun q => ?_) (iK_i (by rw [ix_n (by omega)]; omega) (iK_i (by rw [ix_n (by omega)]; omega) ?_)))
    · have := (cnt_lt (n := n) (m := 4) rfl (by decide) (by omega)).mp q
      omega
    · rw [ix_n (by omega), cpy_s N (by decide), ← nI_succ]
      exact ih (n + 1) (by omega) k
def bckC (M : M2) : M2 := sI (sI (sI (sI (sI (sI (sI (sI (sI M 5 0 (gI M 34 0)) 5 1 (gI M 34 1)) 5 2 (gI M 34 2)) 5 3 (gI M 34 3)) 33 0 (gI M 34 4)) 33 1 (gI M 34 5)) 33 2 (gI M 34 6)) 33 3 (gI M 34 7)) 33 4 (gI M 34 8)
theorem lt7 {j : Nat} (h : j < 7) : j = 0 ∨ j = 1 ∨ j = 2 ∨ j = 3 ∨ j = 4 ∨ j = 5 ∨ j = 6 := by omega
theorem P_back (hI : INV b M) : PAIR b M 152 277 [.ref 4] [.ref 67, U] := by
  obtain ⟨hS, hH, hV, hSc, hL, hC, hA, hSh, hT, hLw⟩ := id hI
  intro d hd f k
  obtain ⟨d, rfl⟩ := ex1 (e := 199) hd
  obtain ⟨d, rfl⟩ := ex1 (e := 198) (d := d) (by omega)
  refine v152_0 ⟨fun h => ?_, fun h => v153_0 (oK_i (by decide) rfl (oK_i (by decide) rfl (oK_i (by decide) rfl (oK_i (by decide) rfl ⟨rfl, ?_⟩))))⟩
  · exact k _ M rfl (fun f2 k2 => v277_0 (brK_t (hL.2.2.1.trans h) (k2 M hI rfl)))
  · simp only [sF_eq]
    show f (gI (bckC M) 33 0) (FR b, bckC M)
    refine k _ _ (by funext j; rfl) (fun f2 k2 => v277_0 (brK_f (fun q => h (hL.2.2.1.symm.trans q)) ?_))
    have := l277_12 (b := b) (d := d + 1) (N := bckC M) (Q := rI f2) 4 0 rfl
    rw [cpy_0] at this
    refine this ?_
    have e : gI (cpy (cpy (bckC M) 99 68 4) 100 98 5) 98 0 = gI (bckC M) 33 0 := hL.2.2.2.2 0 (by decide)
    rw [e]
    refine k2 _ (INV_led hI ?_ ?_ ?_) (by funext j; rfl)
    · intro q h5 h68 h33 h34 h54 h98 h99 h100
      exact agr_cpy h98 (agr_cpy h68 (agr_sI (h33 _) (agr_sI (h33 _) (agr_sI (h33 _) (agr_sI (h33 _) (agr_sI (h33 _) (agr_sI (h5 _) (agr_sI (h5 _) (agr_sI (h5 _) (agr_sI (h5 _) (agr_r M)))))))))))
    · refine ⟨fun j hj => ?_, fun j hj => ?_⟩
      · have q1 := hH.1 j hj
        have q2 := hL.2.2.2.1 j
        rcases lt7 hj with h | h | h | h | h | h | h <;> subst h
        · exact (q2 (by decide)).1
        · exact (q2 (by decide)).1
        · exact (q2 (by decide)).1
        · exact (q2 (by decide)).1
        · exact q1
        · exact q1
        · exact q1
      · have q1 := hH.2 j hj
        have q2 := hL.2.2.2.1 j
        rcases lt7 hj with h | h | h | h | h | h | h <;> subst h
        · exact (q2 (by decide)).2
        · exact (q2 (by decide)).2
        · exact (q2 (by decide)).2
        · exact (q2 (by decide)).2
        · exact q1
        · exact q1
        · exact q1
    · refine ⟨fun j hj => ?_, hL.2.1, hL.2.2.1, fun j hj => ?_, fun j hj => ?_⟩
      · have := hL.2.2.2.2 j hj
        rcases lt5 hj with h | h | h | h | h <;> subst h <;> exact this
      · exact hL.2.2.2.1 j hj
      · exact hL.2.2.2.2 j hj
end PAIRS
