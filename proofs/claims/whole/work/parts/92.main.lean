section MAIN
variable {d : Nat} {Q : QT}
theorem lg_self (v : Int64) : lg_cmp v v = 0 := by
  unfold lg_cmp
  rw [if_neg (fun h => by have := Int64.lt_iff_toInt_lt.mp h; omega), if_pos rfl]
theorem main_loop (hd : 200 ≤ d) (q : ∀ b M, INV b M → Q (some (.int 1)) (FR b, M)) : ∀ m x b M, INV b M → x + m = ix (gI M 3 0) → ix (gI M 3 0) < 2147483648 → WP (d + 1) 107 303 18 [.ref 3, .ref 4, .ref 67, .int (nI x)] [] 107 (FR b, M) Q := by
  intro m
  induction m using Nat.strongRecOn with
  | _ m ih =>
    intro x b M hI hx hL
    have l1 := ix_t (gI M 3 0)
    have x1 := nI_toInt (n := x) (by omega)
    have s6 : (gI M 3 0 - 6).toInt = (gI M 3 0).toInt - 6 := by rw [sub_toInt (by rw [show (6 : Int32).toInt = 6 from rfl]; omega) (by rw [show (6 : Int32).toInt = 6 from rfl]; omega)]; rfl
    by_cases h6 : x + 6 ≤ ix (gI M 3 0)
    case neg => exact v303_18 (brK_t (by rw [i_lt, s6]; omega) (q b M hI))
    have h0 : ix (nI x) < ix (gI M 3 0) := by rw [ix_n (by omega)]; omega
    have h1 : ix (nI x + 1) < ix (gI M 3 0) := by rw [show (1 : Int32) = nI 1 from rfl, nI_add, ix_n (by omega)]; omega
    have h2 : ix (nI x + 2) < ix (gI M 3 0) := by rw [show (2 : Int32) = nI 2 from rfl, nI_add, ix_n (by omega)]; omega
    have h3 : ix (nI x + 3) < ix (gI M 3 0) := by rw [show (3 : Int32) = nI 3 from rfl, nI_add, ix_n (by omega)]; omega
    have h4 : ix (nI x + 4) < ix (gI M 3 0) := by rw [show (4 : Int32) = nI 4 from rfl, nI_add, ix_n (by omega)]; omega
    have h5 : ix (nI x + 5) < ix (gI M 3 0) := by rw [show (5 : Int32) = nI 5 from rfl, nI_add, ix_n (by omega)]; omega
    have nx : ∀ b' M', INV b' M' → gI M' 3 = gI M 3 → WP (d + 1) 107 303 1621 [.ref 3, .ref 4, .ref 67, .int (nI x)] [] 107 (FR b', M') Q := by
      intro b' M' hI' e
      refine v303_1621 ?_
      rw [show (6 : Int32) = nI 6 from rfl, nI_add]
      exact ih (m - 6) (by omega) (x + 6) b' M' hI' (by rw [e]; omega) (by rw [e]; exact hL)
    have b220 : WP (d + 1) 107 303 220 [.ref 3, .ref 4, .ref 67, .int (nI x)] [] 107 (FR b, M) Q := by
      refine v303_220 ?_
      refine iK_i (by first | exact h1 | exact h2 | exact h3 | exact h4 | exact h5 | exact h0) ?_
      refine iK_i (by first | exact h1 | exact h2 | exact h3 | exact h4 | exact h5 | exact h0) ?_
      refine P_stall hI d hd _ (fun v M1 e3 kk => ⟨rfl, ?_⟩)
      dsimp only
      rw [e3]
      refine iK_i (by first | exact h1 | exact h2 | exact h3 | exact h4 | exact h5 | exact h0) ?_
      refine iK_i (by first | exact h1 | exact h2 | exact h3 | exact h4 | exact h5 | exact h0) ?_
      exact kk _ (fun M2 hI2 e2 => ⟨rfl, brK_t (rfl) (nx b M2 hI2 e2)⟩)
    have b253 : WP (d + 1) 107 303 253 [.ref 3, .ref 4, .ref 67, .int (nI x)] [] 107 (FR b, M) Q := by
      refine v303_253 ?_
      refine iK_i (by first | exact h1 | exact h2 | exact h3 | exact h4 | exact h5 | exact h0) ?_
      refine iK_i (by first | exact h1 | exact h2 | exact h3 | exact h4 | exact h5 | exact h0) ?_
      refine iK_i (by first | exact h1 | exact h2 | exact h3 | exact h4 | exact h5 | exact h0) ?_
      refine P_stalls hI d hd _ (fun v M1 e3 kk => ⟨rfl, ?_⟩)
      dsimp only
      rw [e3]
      refine iK_i (by first | exact h1 | exact h2 | exact h3 | exact h4 | exact h5 | exact h0) ?_
      refine iK_i (by first | exact h1 | exact h2 | exact h3 | exact h4 | exact h5 | exact h0) ?_
      refine iK_i (by first | exact h1 | exact h2 | exact h3 | exact h4 | exact h5 | exact h0) ?_
      exact kk _ (fun M2 hI2 e2 => ⟨rfl, brK_t (rfl) (nx b M2 hI2 e2)⟩)
    have b296 : WP (d + 1) 107 303 296 [.ref 3, .ref 4, .ref 67, .int (nI x)] [] 107 (FR b, M) Q := by
      refine v303_296 ?_
      refine iK_i (by first | exact h1 | exact h2 | exact h3 | exact h4 | exact h5 | exact h0) ?_
      refine P_school hI d hd _ (fun v M1 e3 kk => ⟨rfl, ?_⟩)
      dsimp only
      rw [e3]
      refine iK_i (by first | exact h1 | exact h2 | exact h3 | exact h4 | exact h5 | exact h0) ?_
      exact kk _ (fun M2 hI2 e2 => ⟨rfl, brK_t (rfl) (nx b M2 hI2 e2)⟩)
    have b319 : WP (d + 1) 107 303 319 [.ref 3, .ref 4, .ref 67, .int (nI x)] [] 107 (FR b, M) Q := by
      refine v303_319 ?_
      refine iK_i (by first | exact h1 | exact h2 | exact h3 | exact h4 | exact h5 | exact h0) ?_
      refine iK_i (by first | exact h1 | exact h2 | exact h3 | exact h4 | exact h5 | exact h0) ?_
      refine iK_i (by first | exact h1 | exact h2 | exact h3 | exact h4 | exact h5 | exact h0) ?_
      refine P_mend hI d hd _ (fun v M1 e3 kk => ⟨rfl, ?_⟩)
      dsimp only
      rw [e3]
      refine iK_i (by first | exact h1 | exact h2 | exact h3 | exact h4 | exact h5 | exact h0) ?_
      refine iK_i (by first | exact h1 | exact h2 | exact h3 | exact h4 | exact h5 | exact h0) ?_
      refine iK_i (by first | exact h1 | exact h2 | exact h3 | exact h4 | exact h5 | exact h0) ?_
      exact kk _ (fun M2 hI2 e2 => ⟨rfl, brK_t (rfl) (nx b M2 hI2 e2)⟩)
    have b362 : WP (d + 1) 107 303 362 [.ref 3, .ref 4, .ref 67, .int (nI x)] [] 107 (FR b, M) Q := by
      refine v303_362 ?_
      refine iK_i (by first | exact h1 | exact h2 | exact h3 | exact h4 | exact h5 | exact h0) ?_
      refine iK_i (by first | exact h1 | exact h2 | exact h3 | exact h4 | exact h5 | exact h0) ?_
      refine P_of hI d hd _ (fun v M1 e3 kk => ⟨rfl, ?_⟩)
      dsimp only
      rw [e3]
      refine iK_i (by first | exact h1 | exact h2 | exact h3 | exact h4 | exact h5 | exact h0) ?_
      refine iK_i (by first | exact h1 | exact h2 | exact h3 | exact h4 | exact h5 | exact h0) ?_
      exact kk _ (fun M2 hI2 e2 => ⟨rfl, brK_t (rfl) (nx b M2 hI2 e2)⟩)
    have b395 : WP (d + 1) 107 303 395 [.ref 3, .ref 4, .ref 67, .int (nI x)] [] 107 (FR b, M) Q := by
      refine v303_395 ?_
      refine iK_i (by first | exact h1 | exact h2 | exact h3 | exact h4 | exact h5 | exact h0) ?_
      refine P_feed hI d hd _ (fun v M1 e3 kk => ⟨rfl, ?_⟩)
      dsimp only
      rw [e3]
      refine iK_i (by first | exact h1 | exact h2 | exact h3 | exact h4 | exact h5 | exact h0) ?_
      exact kk _ (fun M2 hI2 e2 => ⟨rfl, brK_t (rfl) (nx b M2 hI2 e2)⟩)
    have b418 : WP (d + 1) 107 303 418 [.ref 3, .ref 4, .ref 67, .int (nI x)] [] 107 (FR b, M) Q := by
      refine v303_418 ?_
      exact P_law hI d hd _ (fun v b1 M1 e3 kk => v303_422 (kk _ (fun M2 hI2 e2 => ⟨rfl, brK_t rfl (nx b1 M2 hI2 e2)⟩)))
    have b431 : WP (d + 1) 107 303 431 [.ref 3, .ref 4, .ref 67, .int (nI x)] [] 107 (FR b, M) Q := by
      refine v303_431 ?_
      refine iK_i (by first | exact h1 | exact h2 | exact h3 | exact h4 | exact h5 | exact h0) ?_
      refine P_thing hI d hd _ (fun v M1 e3 kk => ⟨rfl, ?_⟩)
      dsimp only
      rw [e3]
      refine iK_i (by first | exact h1 | exact h2 | exact h3 | exact h4 | exact h5 | exact h0) ?_
      exact kk _ (fun M2 hI2 e2 => ⟨rfl, brK_t (rfl) (nx b M2 hI2 e2)⟩)
    have b454 : WP (d + 1) 107 303 454 [.ref 3, .ref 4, .ref 67, .int (nI x)] [] 107 (FR b, M) Q := by
      refine v303_454 ?_
      refine iK_i (by first | exact h1 | exact h2 | exact h3 | exact h4 | exact h5 | exact h0) ?_
      refine iK_i (by first | exact h1 | exact h2 | exact h3 | exact h4 | exact h5 | exact h0) ?_
      refine iK_i (by first | exact h1 | exact h2 | exact h3 | exact h4 | exact h5 | exact h0) ?_
      refine P_hours hI d hd _ (fun v M1 e3 kk => ⟨rfl, ?_⟩)
      dsimp only
      rw [e3]
      refine iK_i (by first | exact h1 | exact h2 | exact h3 | exact h4 | exact h5 | exact h0) ?_
      refine iK_i (by first | exact h1 | exact h2 | exact h3 | exact h4 | exact h5 | exact h0) ?_
      refine iK_i (by first | exact h1 | exact h2 | exact h3 | exact h4 | exact h5 | exact h0) ?_
      exact kk _ (fun M2 hI2 e2 => ⟨rfl, brK_t (rfl) (nx b M2 hI2 e2)⟩)
    have b497 : WP (d + 1) 107 303 497 [.ref 3, .ref 4, .ref 67, .int (nI x)] [] 107 (FR b, M) Q := by
      refine v303_497 ?_
      refine iK_i (by first | exact h1 | exact h2 | exact h3 | exact h4 | exact h5 | exact h0) ?_
      refine iK_i (by first | exact h1 | exact h2 | exact h3 | exact h4 | exact h5 | exact h0) ?_
      refine iK_i (by first | exact h1 | exact h2 | exact h3 | exact h4 | exact h5 | exact h0) ?_
      refine iK_i (by first | exact h1 | exact h2 | exact h3 | exact h4 | exact h5 | exact h0) ?_
      refine P_often hI d hd _ (fun v M1 e3 kk => ⟨rfl, ?_⟩)
      dsimp only
      rw [e3]
      refine iK_i (by first | exact h1 | exact h2 | exact h3 | exact h4 | exact h5 | exact h0) ?_
      refine iK_i (by first | exact h1 | exact h2 | exact h3 | exact h4 | exact h5 | exact h0) ?_
      refine iK_i (by first | exact h1 | exact h2 | exact h3 | exact h4 | exact h5 | exact h0) ?_
      refine iK_i (by first | exact h1 | exact h2 | exact h3 | exact h4 | exact h5 | exact h0) ?_
      exact kk _ (fun M2 hI2 e2 => ⟨rfl, brK_t (rfl) (nx b M2 hI2 e2)⟩)
    have b550 : WP (d + 1) 107 303 550 [.ref 3, .ref 4, .ref 67, .int (nI x)] [] 107 (FR b, M) Q := by
      refine v303_550 ?_
      refine iK_i (by first | exact h1 | exact h2 | exact h3 | exact h4 | exact h5 | exact h0) ?_
      refine P_round hI d hd _ (fun v M1 e3 kk => ⟨rfl, ?_⟩)
      dsimp only
      rw [e3]
      refine iK_i (by first | exact h1 | exact h2 | exact h3 | exact h4 | exact h5 | exact h0) ?_
      exact kk _ (fun M2 hI2 e2 => ⟨rfl, brK_t (rfl) (nx b M2 hI2 e2)⟩)
    have b573 : WP (d + 1) 107 303 573 [.ref 3, .ref 4, .ref 67, .int (nI x)] [] 107 (FR b, M) Q := by
      refine v303_573 ?_
      refine iK_i (by first | exact h1 | exact h2 | exact h3 | exact h4 | exact h5 | exact h0) ?_
      refine iK_i (by first | exact h1 | exact h2 | exact h3 | exact h4 | exact h5 | exact h0) ?_
      refine P_make hI d hd _ (fun v M1 e3 kk => ⟨rfl, ?_⟩)
      dsimp only
      rw [e3]
      refine iK_i (by first | exact h1 | exact h2 | exact h3 | exact h4 | exact h5 | exact h0) ?_
      refine iK_i (by first | exact h1 | exact h2 | exact h3 | exact h4 | exact h5 | exact h0) ?_
      exact kk _ (fun M2 hI2 e2 => ⟨rfl, brK_t (rfl) (nx b M2 hI2 e2)⟩)
    have b606 : WP (d + 1) 107 303 606 [.ref 3, .ref 4, .ref 67, .int (nI x)] [] 107 (FR b, M) Q := by
      refine v303_606 ?_
      refine iK_i (by first | exact h1 | exact h2 | exact h3 | exact h4 | exact h5 | exact h0) ?_
      refine iK_i (by first | exact h1 | exact h2 | exact h3 | exact h4 | exact h5 | exact h0) ?_
      refine P_recite hI d hd _ (fun v M1 e3 kk => ⟨rfl, ?_⟩)
      dsimp only
      rw [e3]
      refine iK_i (by first | exact h1 | exact h2 | exact h3 | exact h4 | exact h5 | exact h0) ?_
      refine iK_i (by first | exact h1 | exact h2 | exact h3 | exact h4 | exact h5 | exact h0) ?_
      exact kk _ (fun M2 hI2 e2 => ⟨rfl, brK_t (rfl) (nx b M2 hI2 e2)⟩)
    have b639 : WP (d + 1) 107 303 639 [.ref 3, .ref 4, .ref 67, .int (nI x)] [] 107 (FR b, M) Q := by
      refine v303_639 ?_
      refine iK_i (by first | exact h1 | exact h2 | exact h3 | exact h4 | exact h5 | exact h0) ?_
      refine P_waysTo hI d hd _ (fun v M1 e3 kk => ⟨rfl, ?_⟩)
      dsimp only
      rw [e3]
      refine iK_i (by first | exact h1 | exact h2 | exact h3 | exact h4 | exact h5 | exact h0) ?_
      exact kk _ (fun M2 hI2 e2 => ⟨rfl, brK_t (lg_self v) (nx b M2 hI2 e2)⟩)
    have b663 : WP (d + 1) 107 303 663 [.ref 3, .ref 4, .ref 67, .int (nI x)] [] 107 (FR b, M) Q := by
      refine v303_663 ?_
      refine iK_i (by first | exact h1 | exact h2 | exact h3 | exact h4 | exact h5 | exact h0) ?_
      refine iK_i (by first | exact h1 | exact h2 | exact h3 | exact h4 | exact h5 | exact h0) ?_
      refine iK_i (by first | exact h1 | exact h2 | exact h3 | exact h4 | exact h5 | exact h0) ?_
      refine P_most hI d hd _ (fun v M1 e3 kk => ⟨rfl, ?_⟩)
      dsimp only
      rw [e3]
      refine iK_i (by first | exact h1 | exact h2 | exact h3 | exact h4 | exact h5 | exact h0) ?_
      refine iK_i (by first | exact h1 | exact h2 | exact h3 | exact h4 | exact h5 | exact h0) ?_
      refine iK_i (by first | exact h1 | exact h2 | exact h3 | exact h4 | exact h5 | exact h0) ?_
      exact kk _ (fun M2 hI2 e2 => ⟨rfl, brK_t (rfl) (nx b M2 hI2 e2)⟩)
    have b706 : WP (d + 1) 107 303 706 [.ref 3, .ref 4, .ref 67, .int (nI x)] [] 107 (FR b, M) Q := by
      refine v303_706 ?_
      refine iK_i (by first | exact h1 | exact h2 | exact h3 | exact h4 | exact h5 | exact h0) ?_
      refine iK_i (by first | exact h1 | exact h2 | exact h3 | exact h4 | exact h5 | exact h0) ?_
      refine P_quiet hI d hd _ (fun v M1 e3 kk => ⟨rfl, ?_⟩)
      dsimp only
      rw [e3]
      refine iK_i (by first | exact h1 | exact h2 | exact h3 | exact h4 | exact h5 | exact h0) ?_
      refine iK_i (by first | exact h1 | exact h2 | exact h3 | exact h4 | exact h5 | exact h0) ?_
      exact kk _ (fun M2 hI2 e2 => ⟨rfl, brK_t (rfl) (nx b M2 hI2 e2)⟩)
    have b739 : WP (d + 1) 107 303 739 [.ref 3, .ref 4, .ref 67, .int (nI x)] [] 107 (FR b, M) Q := by
      refine v303_739 ?_
      refine iK_i (by first | exact h1 | exact h2 | exact h3 | exact h4 | exact h5 | exact h0) ?_
      refine iK_i (by first | exact h1 | exact h2 | exact h3 | exact h4 | exact h5 | exact h0) ?_
      refine P_tellsMost hI d hd _ (fun v M1 e3 kk => ⟨rfl, ?_⟩)
      dsimp only
      rw [e3]
      refine iK_i (by first | exact h1 | exact h2 | exact h3 | exact h4 | exact h5 | exact h0) ?_
      refine iK_i (by first | exact h1 | exact h2 | exact h3 | exact h4 | exact h5 | exact h0) ?_
      exact kk _ (fun M2 hI2 e2 => ⟨rfl, brK_t (rfl) (nx b M2 hI2 e2)⟩)
    have b772 : WP (d + 1) 107 303 772 [.ref 3, .ref 4, .ref 67, .int (nI x)] [] 107 (FR b, M) Q := by
      refine v303_772 ?_
      refine iK_i (by first | exact h1 | exact h2 | exact h3 | exact h4 | exact h5 | exact h0) ?_
      refine iK_i (by first | exact h1 | exact h2 | exact h3 | exact h4 | exact h5 | exact h0) ?_
      refine iK_i (by first | exact h1 | exact h2 | exact h3 | exact h4 | exact h5 | exact h0) ?_
      refine P_sold hI d hd _ (fun v M1 e3 kk => ⟨rfl, ?_⟩)
      dsimp only
      rw [e3]
      refine iK_i (by first | exact h1 | exact h2 | exact h3 | exact h4 | exact h5 | exact h0) ?_
      refine iK_i (by first | exact h1 | exact h2 | exact h3 | exact h4 | exact h5 | exact h0) ?_
      refine iK_i (by first | exact h1 | exact h2 | exact h3 | exact h4 | exact h5 | exact h0) ?_
      exact kk _ (fun M2 hI2 e2 => ⟨rfl, brK_t (rfl) (nx b M2 hI2 e2)⟩)
    have b815 : WP (d + 1) 107 303 815 [.ref 3, .ref 4, .ref 67, .int (nI x)] [] 107 (FR b, M) Q := by
      refine v303_815 ?_
      refine iK_i (by first | exact h1 | exact h2 | exact h3 | exact h4 | exact h5 | exact h0) ?_
      refine iK_i (by first | exact h1 | exact h2 | exact h3 | exact h4 | exact h5 | exact h0) ?_
      refine P_places hI d hd _ (fun v M1 e3 kk => ⟨rfl, ?_⟩)
      dsimp only
      rw [e3]
      refine iK_i (by first | exact h1 | exact h2 | exact h3 | exact h4 | exact h5 | exact h0) ?_
      refine iK_i (by first | exact h1 | exact h2 | exact h3 | exact h4 | exact h5 | exact h0) ?_
      exact kk _ (fun M2 hI2 e2 => ⟨rfl, brK_t (rfl) (nx b M2 hI2 e2)⟩)
    have b848 : WP (d + 1) 107 303 848 [.ref 3, .ref 4, .ref 67, .int (nI x)] [] 107 (FR b, M) Q := by
      refine v303_848 ?_
      refine iK_i (by first | exact h1 | exact h2 | exact h3 | exact h4 | exact h5 | exact h0) ?_
      refine iK_i (by first | exact h1 | exact h2 | exact h3 | exact h4 | exact h5 | exact h0) ?_
      refine P_best hI d hd _ (fun v M1 e3 kk => ⟨rfl, ?_⟩)
      dsimp only
      rw [e3]
      refine iK_i (by first | exact h1 | exact h2 | exact h3 | exact h4 | exact h5 | exact h0) ?_
      refine iK_i (by first | exact h1 | exact h2 | exact h3 | exact h4 | exact h5 | exact h0) ?_
      exact kk _ (fun M2 hI2 e2 => ⟨rfl, brK_t (rfl) (nx b M2 hI2 e2)⟩)
    have b881 : WP (d + 1) 107 303 881 [.ref 3, .ref 4, .ref 67, .int (nI x)] [] 107 (FR b, M) Q := by
      refine v303_881 ?_
      refine iK_i (by first | exact h1 | exact h2 | exact h3 | exact h4 | exact h5 | exact h0) ?_
      refine iK_i (by first | exact h1 | exact h2 | exact h3 | exact h4 | exact h5 | exact h0) ?_
      refine iK_i (by first | exact h1 | exact h2 | exact h3 | exact h4 | exact h5 | exact h0) ?_
      refine P_when hI d hd _ (fun v M1 e3 kk => ⟨rfl, ?_⟩)
      dsimp only
      rw [e3]
      refine iK_i (by first | exact h1 | exact h2 | exact h3 | exact h4 | exact h5 | exact h0) ?_
      refine iK_i (by first | exact h1 | exact h2 | exact h3 | exact h4 | exact h5 | exact h0) ?_
      refine iK_i (by first | exact h1 | exact h2 | exact h3 | exact h4 | exact h5 | exact h0) ?_
      exact kk _ (fun M2 hI2 e2 => ⟨rfl, brK_t (rfl) (nx b M2 hI2 e2)⟩)
    have b924 : WP (d + 1) 107 303 924 [.ref 3, .ref 4, .ref 67, .int (nI x)] [] 107 (FR b, M) Q := by
      refine v303_924 ?_
      refine iK_i (by first | exact h1 | exact h2 | exact h3 | exact h4 | exact h5 | exact h0) ?_
      refine iK_i (by first | exact h1 | exact h2 | exact h3 | exact h4 | exact h5 | exact h0) ?_
      refine P_verdict hI d hd _ (fun v M1 e3 kk => ⟨rfl, ?_⟩)
      dsimp only
      rw [e3]
      refine iK_i (by first | exact h1 | exact h2 | exact h3 | exact h4 | exact h5 | exact h0) ?_
      refine iK_i (by first | exact h1 | exact h2 | exact h3 | exact h4 | exact h5 | exact h0) ?_
      exact kk _ (fun M2 hI2 e2 => ⟨rfl, brK_t (rfl) (nx b M2 hI2 e2)⟩)
    have b957 : WP (d + 1) 107 303 957 [.ref 3, .ref 4, .ref 67, .int (nI x)] [] 107 (FR b, M) Q := by
      refine v303_957 ?_
      refine iK_i (by first | exact h1 | exact h2 | exact h3 | exact h4 | exact h5 | exact h0) ?_
      refine iK_i (by first | exact h1 | exact h2 | exact h3 | exact h4 | exact h5 | exact h0) ?_
      refine P_clash hI d hd _ (fun v M1 e3 kk => ⟨rfl, ?_⟩)
      dsimp only
      rw [e3]
      refine iK_i (by first | exact h1 | exact h2 | exact h3 | exact h4 | exact h5 | exact h0) ?_
      refine iK_i (by first | exact h1 | exact h2 | exact h3 | exact h4 | exact h5 | exact h0) ?_
      exact kk _ (fun M2 hI2 e2 => ⟨rfl, brK_t (rfl) (nx b M2 hI2 e2)⟩)
    have b990 : WP (d + 1) 107 303 990 [.ref 3, .ref 4, .ref 67, .int (nI x)] [] 107 (FR b, M) Q := by
      refine v303_990 ?_
      refine iK_i (by first | exact h1 | exact h2 | exact h3 | exact h4 | exact h5 | exact h0) ?_
      refine iK_i (by first | exact h1 | exact h2 | exact h3 | exact h4 | exact h5 | exact h0) ?_
      refine P_judge hI d hd _ (fun v M1 e3 kk => ⟨rfl, ?_⟩)
      dsimp only
      rw [e3]
      refine iK_i (by first | exact h1 | exact h2 | exact h3 | exact h4 | exact h5 | exact h0) ?_
      refine iK_i (by first | exact h1 | exact h2 | exact h3 | exact h4 | exact h5 | exact h0) ?_
      exact kk _ (fun M2 hI2 e2 => ⟨rfl, brK_t (rfl) (nx b M2 hI2 e2)⟩)
    have b1023 : WP (d + 1) 107 303 1023 [.ref 3, .ref 4, .ref 67, .int (nI x)] [] 107 (FR b, M) Q := by
      refine v303_1023 ?_
      refine iK_i (by first | exact h1 | exact h2 | exact h3 | exact h4 | exact h5 | exact h0) ?_
      refine iK_i (by first | exact h1 | exact h2 | exact h3 | exact h4 | exact h5 | exact h0) ?_
      refine P_read hI d hd _ (fun v M1 e3 kk => ⟨rfl, ?_⟩)
      dsimp only
      rw [e3]
      refine iK_i (by first | exact h1 | exact h2 | exact h3 | exact h4 | exact h5 | exact h0) ?_
      refine iK_i (by first | exact h1 | exact h2 | exact h3 | exact h4 | exact h5 | exact h0) ?_
      exact kk _ (fun M2 hI2 e2 => ⟨rfl, brK_t (rfl) (nx b M2 hI2 e2)⟩)
    have b1056 : WP (d + 1) 107 303 1056 [.ref 3, .ref 4, .ref 67, .int (nI x)] [] 107 (FR b, M) Q := by
      refine v303_1056 ?_
      refine iK_i (by first | exact h1 | exact h2 | exact h3 | exact h4 | exact h5 | exact h0) ?_
      refine iK_i (by first | exact h1 | exact h2 | exact h3 | exact h4 | exact h5 | exact h0) ?_
      refine iK_i (by first | exact h1 | exact h2 | exact h3 | exact h4 | exact h5 | exact h0) ?_
      refine iK_i (by first | exact h1 | exact h2 | exact h3 | exact h4 | exact h5 | exact h0) ?_
      refine P_drawn hI d hd _ (fun v M1 e3 kk => ⟨rfl, ?_⟩)
      dsimp only
      rw [e3]
      refine iK_i (by first | exact h1 | exact h2 | exact h3 | exact h4 | exact h5 | exact h0) ?_
      refine iK_i (by first | exact h1 | exact h2 | exact h3 | exact h4 | exact h5 | exact h0) ?_
      refine iK_i (by first | exact h1 | exact h2 | exact h3 | exact h4 | exact h5 | exact h0) ?_
      refine iK_i (by first | exact h1 | exact h2 | exact h3 | exact h4 | exact h5 | exact h0) ?_
      exact kk _ (fun M2 hI2 e2 => ⟨rfl, brK_t (rfl) (nx b M2 hI2 e2)⟩)
    have b1109 : WP (d + 1) 107 303 1109 [.ref 3, .ref 4, .ref 67, .int (nI x)] [] 107 (FR b, M) Q := by
      refine v303_1109 ?_
      refine iK_i (by first | exact h1 | exact h2 | exact h3 | exact h4 | exact h5 | exact h0) ?_
      refine P_hour hI d hd _ (fun v M1 e3 kk => ⟨rfl, ?_⟩)
      dsimp only
      rw [e3]
      refine iK_i (by first | exact h1 | exact h2 | exact h3 | exact h4 | exact h5 | exact h0) ?_
      exact kk _ (fun M2 hI2 e2 => ⟨rfl, brK_t (rfl) (nx b M2 hI2 e2)⟩)
    have b1132 : WP (d + 1) 107 303 1132 [.ref 3, .ref 4, .ref 67, .int (nI x)] [] 107 (FR b, M) Q := by
      refine v303_1132 ?_
      refine iK_i (by first | exact h1 | exact h2 | exact h3 | exact h4 | exact h5 | exact h0) ?_
      refine P_fed hI d hd _ (fun v M1 e3 kk => ⟨rfl, ?_⟩)
      dsimp only
      rw [e3]
      refine iK_i (by first | exact h1 | exact h2 | exact h3 | exact h4 | exact h5 | exact h0) ?_
      exact kk _ (fun M2 hI2 e2 => ⟨rfl, brK_t (rfl) (nx b M2 hI2 e2)⟩)
    have b1155 : WP (d + 1) 107 303 1155 [.ref 3, .ref 4, .ref 67, .int (nI x)] [] 107 (FR b, M) Q := by
      refine v303_1155 ?_
      refine iK_i (by first | exact h1 | exact h2 | exact h3 | exact h4 | exact h5 | exact h0) ?_
      refine P_led hI d hd _ (fun v M1 e3 kk => ⟨rfl, ?_⟩)
      dsimp only
      rw [e3]
      refine iK_i (by first | exact h1 | exact h2 | exact h3 | exact h4 | exact h5 | exact h0) ?_
      exact kk _ (fun M2 hI2 e2 => ⟨rfl, brK_t (rfl) (nx b M2 hI2 e2)⟩)
    have b1178 : WP (d + 1) 107 303 1178 [.ref 3, .ref 4, .ref 67, .int (nI x)] [] 107 (FR b, M) Q := by
      refine v303_1178 ?_
      refine P_image hI d hd _ (fun v M1 e3 kk => ⟨rfl, ?_⟩)
      exact kk _ (fun M2 hI2 e2 => ⟨rfl, brK_t (rfl) (nx b M2 hI2 e2)⟩)
    have b1191 : WP (d + 1) 107 303 1191 [.ref 3, .ref 4, .ref 67, .int (nI x)] [] 107 (FR b, M) Q := by
      refine v303_1191 ?_
      refine P_back hI d hd _ (fun v M1 e3 kk => ⟨rfl, ?_⟩)
      exact kk _ (fun M2 hI2 e2 => ⟨rfl, brK_t (rfl) (nx b M2 hI2 e2)⟩)
    have b1204 : WP (d + 1) 107 303 1204 [.ref 3, .ref 4, .ref 67, .int (nI x)] [] 107 (FR b, M) Q := by
      refine v303_1204 ?_
      refine P_undo hI d hd _ (fun v M1 e3 kk => ⟨rfl, ?_⟩)
      exact kk _ (fun M2 hI2 e2 => ⟨rfl, brK_t (rfl) (nx b M2 hI2 e2)⟩)
    have b1217 : WP (d + 1) 107 303 1217 [.ref 3, .ref 4, .ref 67, .int (nI x)] [] 107 (FR b, M) Q := by
      refine v303_1217 ?_
      refine P_redo hI d hd _ (fun v M1 e3 kk => ⟨rfl, ?_⟩)
      exact kk _ (fun M2 hI2 e2 => ⟨rfl, brK_t (rfl) (nx b M2 hI2 e2)⟩)
    have b1230 : WP (d + 1) 107 303 1230 [.ref 3, .ref 4, .ref 67, .int (nI x)] [] 107 (FR b, M) Q := by
      refine v303_1230 ?_
      refine iK_i (by first | exact h1 | exact h2 | exact h3 | exact h4 | exact h5 | exact h0) ?_
      refine P_body hI d hd _ (fun v M1 e3 kk => ⟨rfl, ?_⟩)
      dsimp only
      rw [e3]
      refine iK_i (by first | exact h1 | exact h2 | exact h3 | exact h4 | exact h5 | exact h0) ?_
      exact kk _ (fun M2 hI2 e2 => ⟨rfl, brK_t (rfl) (nx b M2 hI2 e2)⟩)
    have b1253 : WP (d + 1) 107 303 1253 [.ref 3, .ref 4, .ref 67, .int (nI x)] [] 107 (FR b, M) Q := by
      refine v303_1253 ?_
      refine iK_i (by first | exact h1 | exact h2 | exact h3 | exact h4 | exact h5 | exact h0) ?_
      refine iK_i (by first | exact h1 | exact h2 | exact h3 | exact h4 | exact h5 | exact h0) ?_
      refine iK_i (by first | exact h1 | exact h2 | exact h3 | exact h4 | exact h5 | exact h0) ?_
      refine P_act hI d hd _ (fun v M1 e3 kk => ⟨rfl, ?_⟩)
      dsimp only
      rw [e3]
      refine iK_i (by first | exact h1 | exact h2 | exact h3 | exact h4 | exact h5 | exact h0) ?_
      refine iK_i (by first | exact h1 | exact h2 | exact h3 | exact h4 | exact h5 | exact h0) ?_
      refine iK_i (by first | exact h1 | exact h2 | exact h3 | exact h4 | exact h5 | exact h0) ?_
      exact kk _ (fun M2 hI2 e2 => ⟨rfl, brK_t (rfl) (nx b M2 hI2 e2)⟩)
    have b1296 : WP (d + 1) 107 303 1296 [.ref 3, .ref 4, .ref 67, .int (nI x)] [] 107 (FR b, M) Q := by
      refine v303_1296 ?_
      refine iK_i (by first | exact h1 | exact h2 | exact h3 | exact h4 | exact h5 | exact h0) ?_
      refine P_trace hI d hd _ (fun v M1 e3 kk => ⟨rfl, ?_⟩)
      dsimp only
      rw [e3]
      refine iK_i (by first | exact h1 | exact h2 | exact h3 | exact h4 | exact h5 | exact h0) ?_
      exact kk _ (fun M2 hI2 e2 => ⟨rfl, brK_t (rfl) (nx b M2 hI2 e2)⟩)
    have b1319 : WP (d + 1) 107 303 1319 [.ref 3, .ref 4, .ref 67, .int (nI x)] [] 107 (FR b, M) Q := by
      refine v303_1319 ?_
      refine iK_i (by first | exact h1 | exact h2 | exact h3 | exact h4 | exact h5 | exact h0) ?_
      refine iK_i (by first | exact h1 | exact h2 | exact h3 | exact h4 | exact h5 | exact h0) ?_
      refine P_keep hI d hd _ (fun v M1 e3 kk => ⟨rfl, ?_⟩)
      dsimp only
      rw [e3]
      refine iK_i (by first | exact h1 | exact h2 | exact h3 | exact h4 | exact h5 | exact h0) ?_
      refine iK_i (by first | exact h1 | exact h2 | exact h3 | exact h4 | exact h5 | exact h0) ?_
      exact kk _ (fun M2 hI2 e2 => ⟨rfl, brK_t (rfl) (nx b M2 hI2 e2)⟩)
    have b1352 : WP (d + 1) 107 303 1352 [.ref 3, .ref 4, .ref 67, .int (nI x)] [] 107 (FR b, M) Q := by
      refine v303_1352 ?_
      refine iK_i (by first | exact h1 | exact h2 | exact h3 | exact h4 | exact h5 | exact h0) ?_
      refine iK_i (by first | exact h1 | exact h2 | exact h3 | exact h4 | exact h5 | exact h0) ?_
      refine iK_i (by first | exact h1 | exact h2 | exact h3 | exact h4 | exact h5 | exact h0) ?_
      refine P_row hI d hd _ (fun v M1 e3 kk => ⟨rfl, ?_⟩)
      dsimp only
      rw [e3]
      refine iK_i (by first | exact h1 | exact h2 | exact h3 | exact h4 | exact h5 | exact h0) ?_
      refine iK_i (by first | exact h1 | exact h2 | exact h3 | exact h4 | exact h5 | exact h0) ?_
      refine iK_i (by first | exact h1 | exact h2 | exact h3 | exact h4 | exact h5 | exact h0) ?_
      exact kk _ (fun M2 hI2 e2 => ⟨rfl, brK_t (rfl) (nx b M2 hI2 e2)⟩)
    have b1395 : WP (d + 1) 107 303 1395 [.ref 3, .ref 4, .ref 67, .int (nI x)] [] 107 (FR b, M) Q := by
      refine v303_1395 ?_
      refine iK_i (by first | exact h1 | exact h2 | exact h3 | exact h4 | exact h5 | exact h0) ?_
      refine iK_i (by first | exact h1 | exact h2 | exact h3 | exact h4 | exact h5 | exact h0) ?_
      refine iK_i (by first | exact h1 | exact h2 | exact h3 | exact h4 | exact h5 | exact h0) ?_
      refine iK_i (by first | exact h1 | exact h2 | exact h3 | exact h4 | exact h5 | exact h0) ?_
      refine P_put hI d hd _ (fun v M1 e3 kk => ⟨rfl, ?_⟩)
      dsimp only
      rw [e3]
      refine iK_i (by first | exact h1 | exact h2 | exact h3 | exact h4 | exact h5 | exact h0) ?_
      refine iK_i (by first | exact h1 | exact h2 | exact h3 | exact h4 | exact h5 | exact h0) ?_
      refine iK_i (by first | exact h1 | exact h2 | exact h3 | exact h4 | exact h5 | exact h0) ?_
      refine iK_i (by first | exact h1 | exact h2 | exact h3 | exact h4 | exact h5 | exact h0) ?_
      exact kk _ (fun M2 hI2 e2 => ⟨rfl, brK_t (rfl) (nx b M2 hI2 e2)⟩)
    have b1468 : WP (d + 1) 107 303 1468 [.ref 3, .ref 4, .ref 67, .int (nI x)] [] 107 (FR b, M) Q := by
      refine v303_1468 ?_
      refine iK_i (by first | exact h1 | exact h2 | exact h3 | exact h4 | exact h5 | exact h0) ?_
      refine iK_i (by first | exact h1 | exact h2 | exact h3 | exact h4 | exact h5 | exact h0) ?_
      refine P_element hI d hd _ (fun v M1 e3 kk => ⟨rfl, ?_⟩)
      dsimp only
      rw [e3]
      refine iK_i (by first | exact h1 | exact h2 | exact h3 | exact h4 | exact h5 | exact h0) ?_
      refine iK_i (by first | exact h1 | exact h2 | exact h3 | exact h4 | exact h5 | exact h0) ?_
      exact kk _ (fun M2 hI2 e2 => ⟨rfl, brK_t (lg_self v) (nx b M2 hI2 e2)⟩)
    have b1502 : WP (d + 1) 107 303 1502 [.ref 3, .ref 4, .ref 67, .int (nI x)] [] 107 (FR b, M) Q := by
      refine v303_1502 ?_
      refine iK_i (by first | exact h1 | exact h2 | exact h3 | exact h4 | exact h5 | exact h0) ?_
      refine iK_i (by first | exact h1 | exact h2 | exact h3 | exact h4 | exact h5 | exact h0) ?_
      refine iK_i (by first | exact h1 | exact h2 | exact h3 | exact h4 | exact h5 | exact h0) ?_
      refine iK_i (by first | exact h1 | exact h2 | exact h3 | exact h4 | exact h5 | exact h0) ?_
      refine iK_i (by first | exact h1 | exact h2 | exact h3 | exact h4 | exact h5 | exact h0) ?_
      refine P_shift hI d hd _ (fun v M1 e3 kk => ⟨rfl, ?_⟩)
      dsimp only
      rw [e3]
      refine iK_i (by first | exact h1 | exact h2 | exact h3 | exact h4 | exact h5 | exact h0) ?_
      refine iK_i (by first | exact h1 | exact h2 | exact h3 | exact h4 | exact h5 | exact h0) ?_
      refine iK_i (by first | exact h1 | exact h2 | exact h3 | exact h4 | exact h5 | exact h0) ?_
      refine iK_i (by first | exact h1 | exact h2 | exact h3 | exact h4 | exact h5 | exact h0) ?_
      refine iK_i (by first | exact h1 | exact h2 | exact h3 | exact h4 | exact h5 | exact h0) ?_
      exact kk _ (fun M2 hI2 e2 => ⟨rfl, brK_t (rfl) (nx b M2 hI2 e2)⟩)
    have b1565 : WP (d + 1) 107 303 1565 [.ref 3, .ref 4, .ref 67, .int (nI x)] [] 107 (FR b, M) Q := by
      refine v303_1565 ?_
      refine iK_i (by first | exact h1 | exact h2 | exact h3 | exact h4 | exact h5 | exact h0) ?_
      refine iK_i (by first | exact h1 | exact h2 | exact h3 | exact h4 | exact h5 | exact h0) ?_
      refine P_taken hI d hd _ (fun v M1 e3 kk => ⟨rfl, ?_⟩)
      dsimp only
      rw [e3]
      refine iK_i (by first | exact h1 | exact h2 | exact h3 | exact h4 | exact h5 | exact h0) ?_
      refine iK_i (by first | exact h1 | exact h2 | exact h3 | exact h4 | exact h5 | exact h0) ?_
      exact kk _ (fun M2 hI2 e2 => ⟨rfl, brK_t (rfl) (nx b M2 hI2 e2)⟩)
    have b1598 : WP (d + 1) 107 303 1598 [.ref 3, .ref 4, .ref 67, .int (nI x)] [] 107 (FR b, M) Q := by
      refine v303_1598 ?_
      refine iK_i (by first | exact h1 | exact h2 | exact h3 | exact h4 | exact h5 | exact h0) ?_
      refine P_count hI d hd _ (fun v M1 e3 kk => ⟨rfl, ?_⟩)
      dsimp only
      rw [e3]
      refine iK_i (by first | exact h1 | exact h2 | exact h3 | exact h4 | exact h5 | exact h0) ?_
      exact kk _ (fun M2 hI2 e2 => ⟨rfl, brK_t (rfl) (nx b M2 hI2 e2)⟩)
    have b1621 := nx b M hI rfl
    refine v303_18 (brK_f (by rw [i_lt, s6]; omega) (iK_i h0 ?_))
    exact ⟨fun _ => b220, fun _ => ⟨fun _ => b253, fun _ => ⟨fun _ => b296, fun _ => ⟨fun _ => b319, fun _ => ⟨fun _ => b362, fun _ => ⟨fun _ => b395, fun _ => ⟨fun _ => b418, fun _ => ⟨fun _ => b431, fun _ => ⟨fun _ => b454, fun _ => ⟨fun _ => b497, fun _ => ⟨fun _ => b550, fun _ => ⟨fun _ => b573, fun _ => ⟨fun _ => b606, fun _ => ⟨fun _ => b639, fun _ => ⟨fun _ => b663, fun _ => ⟨fun _ => b706, fun _ => ⟨fun _ => b739, fun _ => ⟨fun _ => b772, fun _ => ⟨fun _ => b815, fun _ => ⟨fun _ => b848, fun _ => ⟨fun _ => b881, fun _ => ⟨fun _ => b924, fun _ => ⟨fun _ => b957, fun _ => ⟨fun _ => b990, fun _ => ⟨fun _ => b1023, fun _ => ⟨fun _ => b1056, fun _ => ⟨fun _ => b1109, fun _ => ⟨fun _ => b1132, fun _ => ⟨fun _ => b1155, fun _ => ⟨fun _ => b1178, fun _ => ⟨fun _ => b1191, fun _ => ⟨fun _ => b1204, fun _ => ⟨fun _ => b1217, fun _ => ⟨fun _ => b1230, fun _ => ⟨fun _ => b1253, fun _ => ⟨fun _ => b1296, fun _ => ⟨fun _ => b1319, fun _ => ⟨fun _ => b1352, fun _ => ⟨fun _ => b1395, fun _ => ⟨fun _ => b1468, fun _ => ⟨fun _ => b1502, fun _ => ⟨fun _ => b1565, fun _ => ⟨fun _ => b1598, fun _ => b1621⟩⟩⟩⟩⟩⟩⟩⟩⟩⟩⟩⟩⟩⟩⟩⟩⟩⟩⟩⟩⟩⟩⟩⟩⟩⟩⟩⟩⟩⟩⟩⟩⟩⟩⟩⟩⟩⟩⟩⟩⟩⟩⟩
end MAIN
