/-! OPERATIONS ON THE MEMORY -/
theorem fk_ty (b a : Nat) (hb : b < 13) (ha : a < (cq b).2.2) : (cty b a = .int ∧ fk b a = 0) ∨ (cty b a = .boolean ∧ fk b a = 3) ∨ (((∃ n, cty b a = .object n) ∨ ∃ t, cty b a = .array t) ∧ fk b a = 2) := by
  have h := List.all_eq_true.mp (List.all_eq_true.mp okF_all b (List.mem_range.mpr hb)) a (List.mem_range.mpr ha)
  have h := (ok2 h).2
  cases hc : cty b a <;> rw [hc] at h <;> first | exact (Bool.false_ne_true h).elim | skip
  · exact Or.inl ⟨rfl, Nat.eq_of_beq_eq_true h⟩
  · exact Or.inr (Or.inl ⟨rfl, Nat.eq_of_beq_eq_true h⟩)
  · exact Or.inr (Or.inr ⟨Or.inl ⟨_, rfl⟩, Nat.eq_of_beq_eq_true h⟩)
  · exact Or.inr (Or.inr ⟨Or.inr ⟨_, rfl⟩, Nat.eq_of_beq_eq_true h⟩)
theorem kd_hi : ∀ r, 4 ≤ r → r < 107 → kd r ≤ 24 := by
  intro r h4 h
  have : (List.range 107).all (fun r => Nat.blt r 4 || Nat.ble (kd r) 24) = true := by decide +kernel
  have h2 := List.all_eq_true.mp this r (List.mem_range.mpr h)
  rcases Bool.or_eq_true _ _ ▸ h2 with q | q
  · exact absurd (Nat.le_of_ble_eq_true q) (by omega)
  · exact Nat.le_of_ble_eq_true q
theorem kd_k {r : Nat} (h : 20 ≤ kd r) (h2 : kd r ≤ 24) : kd r = 20 ∨ kd r = 21 ∨ kd r = 22 ∨ kd r = 23 ∨ kd r = 24 := by omega
theorem kd_st : kd 0 = 26 ∧ kd 1 = 26 ∧ kd 2 = 26 ∧ kd 3 = 25 := ⟨rfl, rfl, rfl, rfl⟩
theorem kd_26 {r : Nat} (h : kd r = 26) (hr : r < 107) : r < 3 := by
  rcases Nat.lt_or_ge r 4 with q | q
  · rcases (show r = 0 ∨ r = 1 ∨ r = 2 ∨ r = 3 by omega) with rfl | rfl | rfl | rfl <;> first | omega | cases h
  · have := kd_hi r q hr; omega
theorem kd_25 {r : Nat} (h : kd r = 25) (hr : r < 107) : r = 3 := by
  rcases Nat.lt_or_ge r 4 with q | q
  · rcases (show r = 0 ∨ r = 1 ∨ r = 2 ∨ r = 3 by omega) with rfl | rfl | rfl | rfl <;> first | rfl | cases h
  · have := kd_hi r q hr; omega
theorem ofNat_ix (x : Int32) : Int32.ofNat (ix x) = x := by
  apply Int32.toBitVec_inj.mp
  simp [ix, Int32.ofNat]
theorem rdI_e {n r : Nat} {P : Prop} (h : rdI n r P) : r < n ∧ (kd r = 20 ∨ kd r = 26 ∨ kd r = 25) ∧ P := by
  unfold rdI at h
  cases hb : (Nat.blt r n && (Nat.beq (kd r) 20 || (Nat.beq (kd r) 26 || Nat.beq (kd r) 25))) with
  | true =>
    rw [hb] at h
    obtain ⟨h1, h2⟩ := ok2 hb
    simp only [Bool.or_eq_true, Nat.beq_eq] at h2
    exact ⟨Nat.le_of_ble_eq_true h1, h2, h⟩
  | false => rw [hb] at h; exact h.elim
theorem rdN_e {n r : Nat} {P : Prop} (h : rdN n r P) : r < n ∧ 20 ≤ kd r ∧ P := by
  unfold rdN at h
  cases hb : (Nat.blt r n && Nat.ble 20 (kd r)) with
  | true =>
    rw [hb] at h
    obtain ⟨h1, h2⟩ := ok2 hb
    exact ⟨Nat.le_of_ble_eq_true h1, Nat.le_of_ble_eq_true h2, h⟩
  | false => rw [hb] at h; exact h.elim
section MEMOP
variable {p : Program} {l : Launch} {e : Env} {R : Room} {s : State} {m : MethodId} {args : Array Value} {below : List Frame} {meth : Method} {c : Code} {D : va_G} {cy : Nat → ClassId} {ad : Nat → Nat} {B d n0 nE mu : Nat} {Q : QT}
theorem put_i {n q b a : Nat} {x : Int32} {M : Mm} (h4 : 4 ≤ q) (hkd : kd q = b) (hb13 : b < 13) (hf : Nat.beq (fk b a) 2 = false) : (wl cy ad n M).set (q - 4) (ad q, .inr (b, ((List.range (cq b).2.2).map (fv ad M q)).set a (.int x))) = wl cy ad n (M.1, sI M.2 q a x) :=
  wl_set h4 (by rw [en_obj hkd hb13, fv_i hkd hf]) (fun r' hr' => en_of rfl (gI_ne hr') rfl)
theorem put_r {n q b a x : Nat} {M : Mm} (h4 : 4 ≤ q) (hkd : kd q = b) (hb13 : b < 13) (hf : Nat.beq (fk b a) 2 = true) : (wl cy ad n M).set (q - 4) (ad q, .inr (b, ((List.range (cq b).2.2).map (fv ad M q)).set a (.ref (ad x)))) = wl cy ad n (uR M.1 q a (some x), M.2) :=
  wl_set h4 (by rw [en_obj hkd hb13, fv_r hkd hf]) (fun r' hr' => en_of (uR_ne hr') rfl rfl)
theorem arr_i {n q b k : Nat} {x : Int32} {M : Mm} (h4 : 4 ≤ q) (hkd : kd q = b) (hb : b = 20 ∨ b = 21 ∨ b = 22) : (wl cy ad n M).set (q - 4) (ad q, .inl (cy b, ln q, .inl (upd (gI M.2 q) k x))) = wl cy ad n (M.1, sI M.2 q k x) :=
  wl_set h4 (by rw [en_i hkd hb, gI_eq]) (fun r' hr' => en_of rfl (gI_ne hr') rfl)
theorem arr_l {n q k : Nat} {x : Int64} {M : Mm} (h4 : 4 ≤ q) (hkd : kd q = 23) : (wl cy ad n M).set (q - 4) (ad q, .inl (cy 23, ln q, .inr (.inl (vp_updL (gL M.2 q) k x)))) = wl cy ad n (M.1, sL M.2 q k x) :=
  wl_set h4 (by rw [en_l hkd, gL_eq]) (fun r' hr' => en_of rfl rfl (gL_ne hr'))
theorem arr_q {n q k x : Nat} {M : Mm} (h4 : 4 ≤ q) (hkd : kd q = 24) : (wl cy ad n M).set (q - 4) (ad q, .inl (cy 24, ln q, .inr (.inr (.inr (.inr (va_up (fun j => (M.1 q j).map ad) k (some (ad x)))))))) = wl cy ad n (uR M.1 q k (some x), M.2) := by
  refine wl_set h4 ?_ (fun r' hr' => en_of (uR_ne hr') rfl rfl)
  rw [en_q hkd]
  congr 7
  funext j
  by_cases hj : j = k
  · subst hj; simp [uR, va_up]
  · simp [uR, va_up, hj]
theorem bs_i {q k : Nat} {x : Int32} {M : Mm} {H : Heap} (h4 : 4 ≤ q) (hB : Bs ad B M s H) : Bs ad B (M.1, sI M.2 q k x) s H := hB.of (fun _ _ => gI_ne (by omega))
theorem bs_l {q k : Nat} {x : Int64} {M : Mm} {H : Heap} (hB : Bs ad B M s H) : Bs ad B (M.1, sL M.2 q k x) s H := hB.of (fun _ _ => rfl)
theorem bs_r {R' : Rf} {M : Mm} {H : Heap} (hB : Bs ad B M s H) : Bs ad B (R', M.2) s H := hB.of (fun _ _ => rfl)
def memOp (i : Instr) : Bool := match i with
  | .getfield _ | .putfield _ | .getstatic _ | .arraylength | .iaload | .baload | .saload | .laload | .aaload | .iastore | .bastore | .sastore | .lastore | .aastore => true
  | _ => false
set_option maxHeartbeats 4000000 in
set_option maxRecDepth 100000 in
theorem step_mem {o : Op} {pc n : Nat} {am st : List Value} {M : Mm} {K : KT} {C : CT} (X : Cx p R s m args meth c D cy ad B d n0 nE mu) (hok : okOp mu pc o = true) (hpl : memOp o.1 = true)
    (hK : ∀ pc' am' st' n' M', K pc' am' st' n' M' → Go p l e R s m args below meth c D cy ad B n0 nE mu Q n' pc' am' st' M') (h : stepW nE d n (rz mu) o K C Q am st M) : Go p l e R s m args below meth c D cy ad B n0 nE mu Q n pc am st M := by
  obtain ⟨hx, hb, hml, hown, hts, hret, hlocks, hname, hRf, hRl, hRc, hRs, hs0, hn4, hK0, hN, hA, hz, hNT⟩ := id X
  obtain ⟨i, nx, a, b, c0, v, w, cs⟩ := o
  cases i with
  | getfield x =>
    obtain ⟨hk, hnx, hd⟩ := ok3 hok
    have hnx := Nat.eq_of_beq_eq_true hnx
    subst hnx
    have hd := of_decide_eq_true hd
    intro H locs ls hP hD hS hB h0 h1 hlen hl
    have h : pR st (fun q r => oK n q b (bif Nat.beq (fk b a) 2 then rK (M.1 q a) (fun x => K (pc + 3) am (.ref x :: r) n M) else K (pc + 3) am (.int (gI M.2 q a) :: r) n M)) := h
    obtain ⟨q, r, rfl, h⟩ := pR_e h
    obtain ⟨hqn, hkd, h⟩ := oK_e h
    obtain ⟨hw, ha, hb13⟩ := ok3 hk
    have ha := Nat.le_of_ble_eq_true ha
    have hb13 := Nat.le_of_ble_eq_true hb13
    have h4 : 4 ≤ q := kd_4 (by omega)
    have hg := wl_get (cy := cy) (ad := ad) (M := M) h4 hqn
    rw [en_obj hkd hb13] at hg
    refine va_get (C := (cq b).1) (T := (cq b).2.1) (N := (cq b).2.2) (ref := (cF b a).1) (own := cnm (mo mu)) hx hb hts (inC_g b hb13) hown hK0 hP (q - 4) hg (clC b hb13) a ha (hts (wX c0 (0, mo mu, x, b, a)) (wIs_g hw (show (0 : Nat) ≠ 2 by decide) (show (0 : Nat) ≠ 13 by decide) (show (0 : Nat) ≠ 16 by decide))) (fun _ q => q) (v := fv ad M q a) (by rw [List.getElem?_map, List.getElem?_range ha]; rfl) hd ?_
    cases hf : Nat.beq (fk b a) 2 with
    | false =>
      rw [hf] at h
      have e : fv ad M q a = .int (gI M.2 q a) := by unfold fv; rw [hkd, hf]; rfl
      rw [e]
      exact hK _ _ _ _ _ h H locs ls hP hD hS hB h0 h1 hlen hl
    | true =>
      rw [hf] at h
      obtain ⟨y, hy, h⟩ := rK_e h
      have e : fv ad M q a = .ref (ad y) := by unfold fv; rw [hkd, hf, hy]; rfl
      rw [e]
      exact hK _ _ _ _ _ h H locs ls hP hD hS hB h0 h1 hlen hl
  | putfield x =>
    obtain ⟨hk, hnx, hd⟩ := ok3 hok
    have hnx := Nat.eq_of_beq_eq_true hnx
    subst hnx
    have hd := of_decide_eq_true hd
    intro H locs ls hP hD hS hB h0 h1 hlen hl
    have h : bif Nat.beq (fk b a) 2 then pRR st (fun x q r => oK n q b (K (pc + 3) am r n (uR M.1 q a (some x), M.2))) else pIR st (fun x q r => oK n q b (bif Nat.beq (fk b a) 3 then iK x 2 (K (pc + 3) am r n (M.1, sP b M.2 q a x)) else K (pc + 3) am r n (M.1, sP b M.2 q a x))) := h
    simp only [sP_eq] at h
    obtain ⟨hw, ha, hw3⟩ := ok3 hk
    obtain ⟨hb13, hw4⟩ := ok2 hw3
    have ha := Nat.le_of_ble_eq_true ha
    have hb13 := Nat.le_of_ble_eq_true hb13
    cases hf : Nat.beq (fk b a) 2 with
    | false =>
      rw [hf] at h
      obtain ⟨y, q, r, rfl, h⟩ := pIR_e h
      obtain ⟨hqn, hkd, h⟩ := oK_e h
      have h4 : 4 ≤ q := kd_4 (by omega)
      have hg := wl_get (cy := cy) (ad := ad) (M := M) h4 hqn
      rw [en_obj hkd hb13] at hg
      have hh : narrow (cty b a) (.int y) = .int y ∧ fits (cty b a) (.int y) = true ∧ K (pc + 3) am r n (M.1, sI M.2 q a y) := by
        rcases fk_ty b a hb13 ha with ⟨e1, e2⟩ | ⟨e1, e2⟩ | ⟨e1, e2⟩
        · rw [e2] at h
          rw [e1]
          exact ⟨rfl, rfl, h⟩
        · rw [e2] at h
          obtain ⟨h5, h⟩ := iK_e h
          rw [e1]
          have : y = 0 ∨ y = 1 := by
            rcases (show ix y = 0 ∨ ix y = 1 by omega) with q | q
            · left; rw [← ofNat_ix y, q]; rfl
            · right; rw [← ofNat_ix y, q]; rfl
          rcases this with rfl | rfl <;> exact ⟨rfl, rfl, h⟩
        · rw [e2] at hf
          cases hf
      obtain ⟨hnar, hfits, h⟩ := hh
      have hEQ := put_i (cy := cy) (ad := ad) (n := n) (x := y) (M := M) h4 hkd hb13 hf
      by_cases hfin : (cF b a).2.2.2 = true
      · have hin : decide ((cF b a).1 = cnm (mo mu)) = true ∧ decide (mnm mu = "<init>") = true := by
          rw [hfin] at hw4
          exact ok2 hw4
        exact va_putF (C := (cq b).1) (T := (cq b).2.1) (N := (cq b).2.2) (ref := (cF b a).1) (own := cnm (mo mu)) hx hb hts (inC_g b hb13) (cty b) (tyC b hb13) (nmC b hb13) hown hK0 hP hD hS (q - 4) hg (clC b hb13) a ha (hts (wX c0 (0, mo mu, x, b, a)) (wIs_g hw (show (0 : Nat) ≠ 2 by decide) (show (0 : Nat) ≠ 13 by decide) (show (0 : Nat) ≠ 16 by decide))) (fun _ q => q) hfin (by rw [hname]; exact of_decide_eq_true hin.2) (of_decide_eq_true hin.1) (tyC b hb13 a ha) hnar hfits (by rw [List.length_map, List.length_range]; exact ha) hd (fun H1 locs1 hP1 hD1 hS1 => hK _ _ _ _ _ h H1 locs1 ls (hEQ ▸ hP1) (hEQ ▸ hD1) hS1 (bs_i h4 hB) h0 h1 hlen hl)
      · exact va_put (C := (cq b).1) (T := (cq b).2.1) (N := (cq b).2.2) (ref := (cF b a).1) (own := cnm (mo mu)) hx hb hts (inC_g b hb13) (cty b) (tyC b hb13) (nmC b hb13) hown hK0 hP hD hS (q - 4) hg (clC b hb13) a ha (hts (wX c0 (0, mo mu, x, b, a)) (wIs_g hw (show (0 : Nat) ≠ 2 by decide) (show (0 : Nat) ≠ 13 by decide) (show (0 : Nat) ≠ 16 by decide))) (fun _ q => q) (eq_false_of_ne_true hfin) (tyC b hb13 a ha) hnar hfits (by rw [List.length_map, List.length_range]; exact ha) hd (fun H1 locs1 hP1 hD1 hS1 => hK _ _ _ _ _ h H1 locs1 ls (hEQ ▸ hP1) (hEQ ▸ hD1) hS1 (bs_i h4 hB) h0 h1 hlen hl)
    | true =>
      rw [hf] at h
      obtain ⟨y, q, r, rfl, h⟩ := pRR_e h
      obtain ⟨hqn, hkd, h⟩ := oK_e h
      have h4 : 4 ≤ q := kd_4 (by omega)
      have hg := wl_get (cy := cy) (ad := ad) (M := M) h4 hqn
      rw [en_obj hkd hb13] at hg
      have hh : narrow (cty b a) (.ref (ad y)) = .ref (ad y) ∧ fits (cty b a) (.ref (ad y)) = true := by
        rcases fk_ty b a hb13 ha with ⟨e1, e2⟩ | ⟨e1, e2⟩ | ⟨⟨t, e1⟩ | ⟨t, e1⟩, e2⟩
        · rw [e2] at hf; cases hf
        · rw [e2] at hf; cases hf
        · rw [e1]; exact ⟨rfl, rfl⟩
        · rw [e1]; exact ⟨rfl, rfl⟩
      obtain ⟨hnar, hfits⟩ := hh
      have hEQ := put_r (cy := cy) (ad := ad) (n := n) (x := y) (M := M) h4 hkd hb13 hf
      by_cases hfin : (cF b a).2.2.2 = true
      · have hin : decide ((cF b a).1 = cnm (mo mu)) = true ∧ decide (mnm mu = "<init>") = true := by
          rw [hfin] at hw4
          exact ok2 hw4
        exact va_putF (C := (cq b).1) (T := (cq b).2.1) (N := (cq b).2.2) (ref := (cF b a).1) (own := cnm (mo mu)) hx hb hts (inC_g b hb13) (cty b) (tyC b hb13) (nmC b hb13) hown hK0 hP hD hS (q - 4) hg (clC b hb13) a ha (hts (wX c0 (0, mo mu, x, b, a)) (wIs_g hw (show (0 : Nat) ≠ 2 by decide) (show (0 : Nat) ≠ 13 by decide) (show (0 : Nat) ≠ 16 by decide))) (fun _ q => q) hfin (by rw [hname]; exact of_decide_eq_true hin.2) (of_decide_eq_true hin.1) (tyC b hb13 a ha) hnar hfits (by rw [List.length_map, List.length_range]; exact ha) hd (fun H1 locs1 hP1 hD1 hS1 => hK _ _ _ _ _ h H1 locs1 ls (hEQ ▸ hP1) (hEQ ▸ hD1) hS1 (bs_r hB) h0 h1 hlen hl)
      · exact va_put (C := (cq b).1) (T := (cq b).2.1) (N := (cq b).2.2) (ref := (cF b a).1) (own := cnm (mo mu)) hx hb hts (inC_g b hb13) (cty b) (tyC b hb13) (nmC b hb13) hown hK0 hP hD hS (q - 4) hg (clC b hb13) a ha (hts (wX c0 (0, mo mu, x, b, a)) (wIs_g hw (show (0 : Nat) ≠ 2 by decide) (show (0 : Nat) ≠ 13 by decide) (show (0 : Nat) ≠ 16 by decide))) (fun _ q => q) (eq_false_of_ne_true hfin) (tyC b hb13 a ha) hnar hfits (by rw [List.length_map, List.length_range]; exact ha) hd (fun H1 locs1 hP1 hD1 hS1 => hK _ _ _ _ _ h H1 locs1 ls (hEQ ▸ hP1) (hEQ ▸ hD1) hS1 (bs_r hB) h0 h1 hlen hl)
  | getstatic x =>
    obtain ⟨hk, hnx, hd⟩ := ok3 hok
    have hnx := Nat.eq_of_beq_eq_true hnx
    subst hnx
    have hd := of_decide_eq_true hd
    intro H locs ls hP hD hS hB h0 h1 hlen hl
    obtain ⟨hw, ha⟩ := ok2 hk
    have ha := Nat.le_of_ble_eq_true ha
    exact va_gets (ref := zC a) hx hb (hB.2.2.1 a ha) hS hown (hts (wX c0 (17, mo mu, x, a, 0)) (wIs_g hw (show (17 : Nat) ≠ 2 by decide) (show (17 : Nat) ≠ 13 by decide) (show (17 : Nat) ≠ 16 by decide))) (fun _ q => q) hd (hK _ _ _ _ _ h H locs ls hP hD hS hB h0 h1 hlen hl)
  | arraylength =>
    have hok : (okB mu pc .arraylength nx a b c0 v w cs && (Nat.beq nx (pc + len1 .arraylength) && decide (decode (Bc mu) pc = .ok (.arraylength, len1 .arraylength)))) = true := hok
    obtain ⟨hk, hnx, hd⟩ := ok3 hok
    have hnx := Nat.eq_of_beq_eq_true hnx
    subst hnx
    have hd := of_decide_eq_true hd
    intro H locs ls hP hD hS hB h0 h1 hlen hl
    have h : pR st (fun q r => rdN n q (K (pc + 1) am (.int (lenI M.2 q) :: r) n M)) := h
    obtain ⟨q, r, rfl, h⟩ := pR_e h
    obtain ⟨hqn, hkd, h⟩ := rdN_e h
    rcases Nat.lt_or_ge q 4 with hq | hq
    · rcases Nat.lt_or_ge q 3 with hq3 | hq3
      · have e : lenI M.2 q = Int32.ofNat (ln q) := by
          rcases (show q = 0 ∨ q = 1 ∨ q = 2 by omega) with rfl | rfl | rfl <;> rfl
        rw [e] at h
        exact va_tlen hx hb (hB.1 q hq3) hS rfl hd (hK _ _ _ _ _ h H locs ls hP hD hS hB h0 h1 hlen hl)
      · have e : q = 3 := by omega
        subst e
        have e : lenI M.2 3 = Int32.ofNat (ix (gI M.2 3 0)) := by rw [ofNat_ix]; rfl
        rw [e] at h
        exact va_slen hx hb hB.2.1 (by rw [hs0]; exact Nat.lt_of_lt_of_le (hA.2 3 (by omega)) (ad_ge hA hn4)) (Nat.not_le.mpr (hA.2 3 (by omega))) hS hd (hK _ _ _ _ _ h H locs ls hP hD hS hB h0 h1 hlen hl)
    · have hhi := kd_hi q hq (by omega)
      have hg := wl_get (cy := cy) (ad := ad) (M := M) hq hqn
      have e : lenI M.2 q = Int32.ofNat (ln q) := by
        unfold lenI
        rw [show Nat.beq (kd q) 25 = false by rcases kd_k hkd hhi with e | e | e | e | e <;> rw [e] <;> rfl]
        rfl
      rw [e] at h
      rcases kd_k hkd hhi with e | e | e | e | e
      · rw [en_i e (by omega)] at hg
        exact va_alen hx hb hK0 hP (q - 4) 0 hg rfl rfl hd (hK _ _ _ _ _ h H locs ls hP hD hS hB h0 h1 hlen hl)
      · rw [en_i e (by omega)] at hg
        exact va_alen hx hb hK0 hP (q - 4) 1 hg rfl rfl hd (hK _ _ _ _ _ h H locs ls hP hD hS hB h0 h1 hlen hl)
      · rw [en_i e (by omega)] at hg
        exact va_alen hx hb hK0 hP (q - 4) 2 hg rfl rfl hd (hK _ _ _ _ _ h H locs ls hP hD hS hB h0 h1 hlen hl)
      · rw [en_l e] at hg
        exact va_alen hx hb hK0 hP (q - 4) 3 hg rfl rfl hd (hK _ _ _ _ _ h H locs ls hP hD hS hB h0 h1 hlen hl)
      · rw [en_q e] at hg
        exact va_alen hx hb hK0 hP (q - 4) 4 hg rfl rfl hd (hK _ _ _ _ _ h H locs ls hP hD hS hB h0 h1 hlen hl)
  | iaload =>
    have hok : (okB mu pc .iaload nx a b c0 v w cs && (Nat.beq nx (pc + len1 .iaload) && decide (decode (Bc mu) pc = .ok (.iaload, len1 .iaload)))) = true := hok
    obtain ⟨hk, hnx, hd⟩ := ok3 hok
    have hnx := Nat.eq_of_beq_eq_true hnx
    subst hnx
    have hd := of_decide_eq_true hd
    intro H locs ls hP hD hS hB h0 h1 hlen hl
    have h : pIR st (fun i q r => rdI n q (iK i (lenN M.2 q) (K (pc + 1) am (.int (ldX M.2 q i) :: r) n M))) := h
    obtain ⟨i, q, r, rfl, h⟩ := pIR_e h
    obtain ⟨hqn, hkd, h⟩ := rdI_e h
    obtain ⟨hix, h⟩ := iK_e h
    rcases hkd with e | e | e
    · have h4 : 4 ≤ q := kd_4 (by omega)
      have e1 : lenN M.2 q = ln q := by unfold lenN; rw [e]; rfl
      have e2 : ldX M.2 q i = gI M.2 q (ix i) := by unfold ldX; rw [e]; rfl
      rw [e1] at hix
      obtain ⟨hi1, hi2⟩ := ix_in hix (Nat.le_trans (ln_lt q) (by decide))
      rw [e2, ← hi2] at h
      have hg := wl_get (cy := cy) (ad := ad) (M := M) h4 hqn
      rw [en_i e (by omega)] at hg
      exact va_iald hx hb hK0 hP (q - 4) 0 hg rfl hi1 hd (hK _ _ _ _ _ h H locs ls hP hD hS hB h0 h1 hlen hl)
    · have hq3 := kd_26 e (by omega)
      have e1 : lenN M.2 q = ln q := by unfold lenN; rw [e]; rfl
      have e2 : ldX M.2 q i = gI M.2 q (ix i) := by unfold ldX; rw [e]; rfl
      rw [e1] at hix
      obtain ⟨hi1, hi2⟩ := ix_in hix (Nat.le_trans (ln_lt q) (by decide))
      rw [e2, ← hi2] at h
      exact va_ti hx hb (hB.1 q hq3) hS hi1 rfl hd (hK _ _ _ _ _ h H locs ls hP hD hS hB h0 h1 hlen hl)
    · have e3 := kd_25 e (by omega)
      subst e3
      have e1 : lenN M.2 3 = ix (gI M.2 3 0) := rfl
      have e2 : ldX M.2 3 i = gI M.2 3 (ix i + 1) := rfl
      rw [e1] at hix
      obtain ⟨hi1, hi2⟩ := ix_in hix (Nat.le_trans hB.2.2.2 (by decide))
      rw [e2, ← hi2] at h
      exact va_sld hx hb hB.2.1 (by rw [hs0]; exact Nat.lt_of_lt_of_le (hA.2 3 (by omega)) (ad_ge hA hn4)) (Nat.not_le.mpr (hA.2 3 (by omega))) hS hi1 hd (hK _ _ _ _ _ h H locs ls hP hD hS hB h0 h1 hlen hl)
  | baload =>
    have hok : (okB mu pc .baload nx a b c0 v w cs && (Nat.beq nx (pc + len1 .baload) && decide (decode (Bc mu) pc = .ok (.baload, len1 .baload)))) = true := hok
    obtain ⟨hk, hnx, hd⟩ := ok3 hok
    have hnx := Nat.eq_of_beq_eq_true hnx
    subst hnx
    have hd := of_decide_eq_true hd
    intro H locs ls hP hD hS hB h0 h1 hlen hl
    have h : pIR st (fun i q r => oK n q 21 (iK i (ln q) (K (pc + 1) am (.int (gI M.2 q (ix i)) :: r) n M))) := h
    obtain ⟨i, q, r, rfl, h⟩ := pIR_e h
    obtain ⟨hqn, e, h⟩ := oK_e h
    obtain ⟨hix, h⟩ := iK_e h
    have h4 : 4 ≤ q := kd_4 (by omega)
    obtain ⟨hi1, hi2⟩ := ix_in hix (Nat.le_trans (ln_lt q) (by decide))
    have hg := wl_get (cy := cy) (ad := ad) (M := M) h4 hqn
    rw [← hi2] at h
    rw [en_i e (by omega)] at hg
    exact va_bald hx hb hK0 hP (q - 4) 1 hg rfl hi1 hd (hK _ _ _ _ _ h H locs ls hP hD hS hB h0 h1 hlen hl)
  | saload =>
    have hok : (okB mu pc .saload nx a b c0 v w cs && (Nat.beq nx (pc + len1 .saload) && decide (decode (Bc mu) pc = .ok (.saload, len1 .saload)))) = true := hok
    obtain ⟨hk, hnx, hd⟩ := ok3 hok
    have hnx := Nat.eq_of_beq_eq_true hnx
    subst hnx
    have hd := of_decide_eq_true hd
    intro H locs ls hP hD hS hB h0 h1 hlen hl
    have h : pIR st (fun i q r => oK n q 22 (iK i (ln q) (K (pc + 1) am (.int (gI M.2 q (ix i)) :: r) n M))) := h
    obtain ⟨i, q, r, rfl, h⟩ := pIR_e h
    obtain ⟨hqn, e, h⟩ := oK_e h
    obtain ⟨hix, h⟩ := iK_e h
    have h4 : 4 ≤ q := kd_4 (by omega)
    obtain ⟨hi1, hi2⟩ := ix_in hix (Nat.le_trans (ln_lt q) (by decide))
    have hg := wl_get (cy := cy) (ad := ad) (M := M) h4 hqn
    rw [← hi2] at h
    rw [en_i e (by omega)] at hg
    exact va_sald hx hb hK0 hP (q - 4) 2 hg rfl hi1 hd (hK _ _ _ _ _ h H locs ls hP hD hS hB h0 h1 hlen hl)
  | laload =>
    have hok : (okB mu pc .laload nx a b c0 v w cs && (Nat.beq nx (pc + len1 .laload) && decide (decode (Bc mu) pc = .ok (.laload, len1 .laload)))) = true := hok
    obtain ⟨hk, hnx, hd⟩ := ok3 hok
    have hnx := Nat.eq_of_beq_eq_true hnx
    subst hnx
    have hd := of_decide_eq_true hd
    intro H locs ls hP hD hS hB h0 h1 hlen hl
    have h : pIR st (fun i q r => oK n q 23 (iK i (ln q) (K (pc + 1) am (.long (gL M.2 q (ix i)) :: r) n M))) := h
    obtain ⟨i, q, r, rfl, h⟩ := pIR_e h
    obtain ⟨hqn, e, h⟩ := oK_e h
    obtain ⟨hix, h⟩ := iK_e h
    have h4 : 4 ≤ q := kd_4 (by omega)
    obtain ⟨hi1, hi2⟩ := ix_in hix (Nat.le_trans (ln_lt q) (by decide))
    have hg := wl_get (cy := cy) (ad := ad) (M := M) h4 hqn
    rw [← hi2] at h
    rw [en_l e] at hg
    exact va_lald hx hb hK0 hP (q - 4) 3 hg rfl hi1 hd (hK _ _ _ _ _ h H locs ls hP hD hS hB h0 h1 hlen hl)
  | aaload =>
    have hok : (okB mu pc .aaload nx a b c0 v w cs && (Nat.beq nx (pc + len1 .aaload) && decide (decode (Bc mu) pc = .ok (.aaload, len1 .aaload)))) = true := hok
    obtain ⟨hk, hnx, hd⟩ := ok3 hok
    have hnx := Nat.eq_of_beq_eq_true hnx
    subst hnx
    have hd := of_decide_eq_true hd
    intro H locs ls hP hD hS hB h0 h1 hlen hl
    have h : pIR st (fun i q r => oK n q 24 (iK i (ln q) (rK (M.1 q (ix i)) (fun x => K (pc + 1) am (.ref x :: r) n M)))) := h
    obtain ⟨i, q, r, rfl, h⟩ := pIR_e h
    obtain ⟨hqn, e, h⟩ := oK_e h
    obtain ⟨hix, h⟩ := iK_e h
    obtain ⟨y, hy, h⟩ := rK_e h
    have h4 : 4 ≤ q := kd_4 (by omega)
    obtain ⟨hi1, hi2⟩ := ix_in hix (Nat.le_trans (ln_lt q) (by decide))
    have hg := wl_get (cy := cy) (ad := ad) (M := M) h4 hqn
    rw [en_q e] at hg
    refine va_aldq (C := (cq 9).1) hx hb hK0 hP (q - 4) 4 hg rfl hi1 hd ?_
    rw [hi2, hy]
    exact hK _ _ _ _ _ h H locs ls hP hD hS hB h0 h1 hlen hl
  | iastore =>
    have hok : (okB mu pc .iastore nx a b c0 v w cs && (Nat.beq nx (pc + len1 .iastore) && decide (decode (Bc mu) pc = .ok (.iastore, len1 .iastore)))) = true := hok
    obtain ⟨hk, hnx, hd⟩ := ok3 hok
    have hnx := Nat.eq_of_beq_eq_true hnx
    subst hnx
    have hd := of_decide_eq_true hd
    intro H locs ls hP hD hS hB h0 h1 hlen hl
    have h : pIIR st (fun x i q r => oK n q 20 (iK i (ln q) (K (pc + 1) am r n (M.1, sI M.2 q (ix i) x)))) := h
    obtain ⟨x, i, q, r, rfl, h⟩ := pIIR_e h
    obtain ⟨hqn, e, h⟩ := oK_e h
    obtain ⟨hix, h⟩ := iK_e h
    have h4 : 4 ≤ q := kd_4 (by omega)
    obtain ⟨hi1, hi2⟩ := ix_in hix (Nat.le_trans (ln_lt q) (by decide))
    have hg := wl_get (cy := cy) (ad := ad) (M := M) h4 hqn
    rw [en_i e (by omega)] at hg
    refine va_iast hx hb hK0 hP hD hS (q - 4) 0 hg rfl hi1 hd (fun H1 locs1 hP1 hD1 hS1 => ?_)
    rw [hi2, arr_i h4 e (by omega)] at hP1 hD1
    exact hK _ _ _ _ _ h H1 locs1 ls hP1 hD1 hS1 (bs_i h4 hB) h0 h1 hlen hl
  | bastore =>
    have hok : (okB mu pc .bastore nx a b c0 v w cs && (Nat.beq nx (pc + len1 .bastore) && decide (decode (Bc mu) pc = .ok (.bastore, len1 .bastore)))) = true := hok
    obtain ⟨hk, hnx, hd⟩ := ok3 hok
    have hnx := Nat.eq_of_beq_eq_true hnx
    subst hnx
    have hd := of_decide_eq_true hd
    intro H locs ls hP hD hS hB h0 h1 hlen hl
    have h : pIIR st (fun x i q r => oK n q 21 (iK i (ln q) (K (pc + 1) am r n (M.1, sI M.2 q (ix i) x.toInt8.toInt32)))) := h
    obtain ⟨x, i, q, r, rfl, h⟩ := pIIR_e h
    obtain ⟨hqn, e, h⟩ := oK_e h
    obtain ⟨hix, h⟩ := iK_e h
    have h4 : 4 ≤ q := kd_4 (by omega)
    obtain ⟨hi1, hi2⟩ := ix_in hix (Nat.le_trans (ln_lt q) (by decide))
    have hg := wl_get (cy := cy) (ad := ad) (M := M) h4 hqn
    rw [en_i e (by omega)] at hg
    refine va_bast hx hb hK0 hP hD hS (q - 4) 1 hg rfl hi1 hd (fun H1 locs1 hP1 hD1 hS1 => ?_)
    rw [vp_nar_byte, hi2, arr_i h4 e (by omega)] at hP1 hD1
    exact hK _ _ _ _ _ h H1 locs1 ls hP1 hD1 hS1 (bs_i h4 hB) h0 h1 hlen hl
  | sastore =>
    have hok : (okB mu pc .sastore nx a b c0 v w cs && (Nat.beq nx (pc + len1 .sastore) && decide (decode (Bc mu) pc = .ok (.sastore, len1 .sastore)))) = true := hok
    obtain ⟨hk, hnx, hd⟩ := ok3 hok
    have hnx := Nat.eq_of_beq_eq_true hnx
    subst hnx
    have hd := of_decide_eq_true hd
    intro H locs ls hP hD hS hB h0 h1 hlen hl
    have h : pIIR st (fun x i q r => oK n q 22 (iK i (ln q) (K (pc + 1) am r n (M.1, sI M.2 q (ix i) x.toInt16.toInt32)))) := h
    obtain ⟨x, i, q, r, rfl, h⟩ := pIIR_e h
    obtain ⟨hqn, e, h⟩ := oK_e h
    obtain ⟨hix, h⟩ := iK_e h
    have h4 : 4 ≤ q := kd_4 (by omega)
    obtain ⟨hi1, hi2⟩ := ix_in hix (Nat.le_trans (ln_lt q) (by decide))
    have hg := wl_get (cy := cy) (ad := ad) (M := M) h4 hqn
    rw [en_i e (by omega)] at hg
    refine va_sast hx hb hK0 hP hD hS (q - 4) 2 hg rfl hi1 hd (fun H1 locs1 hP1 hD1 hS1 => ?_)
    rw [vp_nar_short, hi2, arr_i h4 e (by omega)] at hP1 hD1
    exact hK _ _ _ _ _ h H1 locs1 ls hP1 hD1 hS1 (bs_i h4 hB) h0 h1 hlen hl
  | lastore =>
    have hok : (okB mu pc .lastore nx a b c0 v w cs && (Nat.beq nx (pc + len1 .lastore) && decide (decode (Bc mu) pc = .ok (.lastore, len1 .lastore)))) = true := hok
    obtain ⟨hk, hnx, hd⟩ := ok3 hok
    have hnx := Nat.eq_of_beq_eq_true hnx
    subst hnx
    have hd := of_decide_eq_true hd
    intro H locs ls hP hD hS hB h0 h1 hlen hl
    have h : pLIR st (fun x i q r => oK n q 23 (iK i (ln q) (K (pc + 1) am r n (M.1, sL M.2 q (ix i) x)))) := h
    obtain ⟨x, i, q, r, rfl, h⟩ := pLIR_e h
    obtain ⟨hqn, e, h⟩ := oK_e h
    obtain ⟨hix, h⟩ := iK_e h
    have h4 : 4 ≤ q := kd_4 (by omega)
    obtain ⟨hi1, hi2⟩ := ix_in hix (Nat.le_trans (ln_lt q) (by decide))
    have hg := wl_get (cy := cy) (ad := ad) (M := M) h4 hqn
    rw [en_l e] at hg
    refine va_last hx hb hK0 hP hD hS (q - 4) 3 hg rfl hi1 hd (fun H1 locs1 hP1 hD1 hS1 => ?_)
    rw [hi2, arr_l h4 e] at hP1 hD1
    exact hK _ _ _ _ _ h H1 locs1 ls hP1 hD1 hS1 (bs_l hB) h0 h1 hlen hl
  | aastore =>
    have hok : (okB mu pc .aastore nx a b c0 v w cs && (Nat.beq nx (pc + len1 .aastore) && decide (decode (Bc mu) pc = .ok (.aastore, len1 .aastore)))) = true := hok
    obtain ⟨hk, hnx, hd⟩ := ok3 hok
    have hnx := Nat.eq_of_beq_eq_true hnx
    subst hnx
    have hd := of_decide_eq_true hd
    intro H locs ls hP hD hS hB h0 h1 hlen hl
    have h : pRIR st (fun x i q r => oK n q 24 (oK n x 9 (iK i (ln q) (K (pc + 1) am r n (uR M.1 q (ix i) (some x), M.2))))) := h
    obtain ⟨x, i, q, r, rfl, h⟩ := pRIR_e h
    obtain ⟨hqn, e, h⟩ := oK_e h
    obtain ⟨hxn, e9, h⟩ := oK_e h
    obtain ⟨hix, h⟩ := iK_e h
    have hx4 : 4 ≤ x := kd_4 (by omega)
    have hgx := wl_get (cy := cy) (ad := ad) (M := M) hx4 hxn
    rw [en_obj e9 (by omega)] at hgx
    have h4 : 4 ≤ q := kd_4 (by omega)
    obtain ⟨hi1, hi2⟩ := ix_in hix (Nat.le_trans (ln_lt q) (by decide))
    have hg := wl_get (cy := cy) (ad := ad) (M := M) h4 hqn
    rw [en_q e] at hg
    refine va_astq (r := ((cq 9).1, (cq 9).2.1, (cq 9).2.2)) hx hb hK0 hP hD hS (q - 4) 4 (x - 4) 9 hg rfl hgx (clC 9 (by decide)) hi1 hd (fun H1 locs1 hP1 hD1 hS1 => ?_)
    rw [hi2, arr_q h4 e] at hP1 hD1
    exact hK _ _ _ _ _ h H1 locs1 ls hP1 hD1 hS1 (bs_r hB) h0 h1 hlen hl
  | _ => first | exact (Bool.false_ne_true hpl).elim | exact h.elim
end MEMOP
