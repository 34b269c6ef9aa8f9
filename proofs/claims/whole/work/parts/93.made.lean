/-! THE OBJECTS ARE MADE -/
def nw (n : Nat) (M : Mm) : Mm := (zR M.1 n, zM M.2 n)
def ur (r k x : Nat) (M : Mm) : Mm := (uR M.1 r k (some x), M.2)
def sp (c r k : Nat) (v : Int32) (M : Mm) : Mm := (M.1, sP c M.2 r k v)
def ia (r k : Nat) (v : Int32) (M : Mm) : Mm := (M.1, sI M.2 r k v)
theorem k1_0 {d r n : Nat} {M : Mm} {f : Mm → Prop} (hd : 1 ≤ d) (h : f M) : WP d n 1 0 [.ref r] [] n M (rV f) := by
  obtain ⟨d, rfl⟩ := ex1 hd
  refine blk 3 (fun _ => false) ?_
  show bK (Nat.beq n n) (f M)
  rw [Nat.beq_refl]
  exact h
def i2_5 (M : Mm) : Mm := sp 3 5 6 (7) (sp 3 5 5 (5) (sp 3 5 4 (1) (sp 3 5 3 (6) M)))
theorem k2_5 {d : Nat} {M : Mm} {f : Mm → Prop} (hd : 2 ≤ d) (h : f (i2_5 M)) : WP d 6 2 0 [.ref 5] [] 6 M (rV f) := by
  obtain ⟨d, rfl⟩ := ex1 (e := 1) hd
  refine blk 17 (fun _ => false) (show f (sp 3 5 6 (7) (sp 3 5 5 (5) (sp 3 5 4 (1) (sp 3 5 3 (6) M)))) from ?_)
  exact h
def i2_6 (M : Mm) : Mm := sp 3 6 6 (7) (sp 3 6 5 (5) (sp 3 6 4 (1) (sp 3 6 3 (6) M)))
theorem k2_6 {d : Nat} {M : Mm} {f : Mm → Prop} (hd : 2 ≤ d) (h : f (i2_6 M)) : WP d 7 2 0 [.ref 6] [] 7 M (rV f) := by
  obtain ⟨d, rfl⟩ := ex1 (e := 1) hd
  refine blk 17 (fun _ => false) (show f (sp 3 6 6 (7) (sp 3 6 5 (5) (sp 3 6 4 (1) (sp 3 6 3 (6) M)))) from ?_)
  exact h
def i4_9 (M : Mm) : Mm := ur 9 2 12 (nw 12 (ur 9 1 11 (nw 11 (ur 9 0 10 (nw 10 M)))))
theorem k4_9 {d : Nat} {M : Mm} {f : Mm → Prop} (hd : 2 ≤ d) (h : f (i4_9 M)) : WP d 13 4 0 [.ref 9] [] 10 M (rV f) := by
  obtain ⟨d, rfl⟩ := ex1 (e := 1) hd
  refine blk 17 (fun _ => false) (show f (ur 9 2 12 (nw 12 (ur 9 1 11 (nw 11 (ur 9 0 10 (nw 10 M)))))) from ?_)
  exact h
def i4_13 (M : Mm) : Mm := ur 13 2 16 (nw 16 (ur 13 1 15 (nw 15 (ur 13 0 14 (nw 14 M)))))
theorem k4_13 {d : Nat} {M : Mm} {f : Mm → Prop} (hd : 2 ≤ d) (h : f (i4_13 M)) : WP d 17 4 0 [.ref 13] [] 14 M (rV f) := by
  obtain ⟨d, rfl⟩ := ex1 (e := 1) hd
  refine blk 17 (fun _ => false) (show f (ur 13 2 16 (nw 16 (ur 13 1 15 (nw 15 (ur 13 0 14 (nw 14 M)))))) from ?_)
  exact h
def i3_7 (M : Mm) : Mm := ur 7 5 17 (nw 17 (ur 7 4 13 (i4_13 (nw 13 (ur 7 3 9 (i4_9 (nw 9 (ur 7 1 8 (nw 8 M)))))))))
theorem k3_7 {d : Nat} {M : Mm} {f : Mm → Prop} (hd : 3 ≤ d) (h : f (i3_7 M)) : WP d 18 3 0 [.ref 7] [] 8 M (rV f) := by
  obtain ⟨d, rfl⟩ := ex1 (e := 2) hd
  refine blk 23 (fun _ => false) (show WP d 13 4 0 [.ref 9] [] 10 (nw 9 (ur 7 1 8 (nw 8 M))) (rV (fun N0 => WP d 17 4 0 [.ref 13] [] 14 (nw 13 (ur 7 3 9 N0)) (rV (fun N1 => f (ur 7 5 17 (nw 17 (ur 7 4 13 N1))))))) from ?_)
  refine k4_9 (by omega) ?_
  refine k4_13 (by omega) ?_
  exact h
def i5_18 (M : Mm) : Mm := ur 18 7 25 (nw 25 (ur 18 6 24 (nw 24 (ur 18 5 23 (nw 23 (ur 18 4 22 (nw 22 (ur 18 3 21 (nw 21 (ur 18 2 20 (nw 20 (ur 18 1 19 (nw 19 M)))))))))))))
theorem k5_18 {d : Nat} {M : Mm} {f : Mm → Prop} (hd : 2 ≤ d) (h : f (i5_18 M)) : WP d 26 5 0 [.ref 18] [] 19 M (rV f) := by
  obtain ⟨d, rfl⟩ := ex1 (e := 1) hd
  refine blk 33 (fun _ => false) (show f (ur 18 7 25 (nw 25 (ur 18 6 24 (nw 24 (ur 18 5 23 (nw 23 (ur 18 4 22 (nw 22 (ur 18 3 21 (nw 21 (ur 18 2 20 (nw 20 (ur 18 1 19 (nw 19 M)))))))))))))) from ?_)
  exact h
def i6_26 (M : Mm) : Mm := ur 26 7 32 (nw 32 (ur 26 6 31 (nw 31 (ur 26 5 30 (nw 30 (ur 26 4 29 (nw 29 (ur 26 3 28 (nw 28 (ur 26 1 27 (nw 27 M)))))))))))
theorem k6_26 {d : Nat} {M : Mm} {f : Mm → Prop} (hd : 2 ≤ d) (h : f (i6_26 M)) : WP d 33 6 0 [.ref 26] [] 27 M (rV f) := by
  obtain ⟨d, rfl⟩ := ex1 (e := 1) hd
  refine blk 29 (fun _ => false) (show f (ur 26 7 32 (nw 32 (ur 26 6 31 (nw 31 (ur 26 5 30 (nw 30 (ur 26 4 29 (nw 29 (ur 26 3 28 (nw 28 (ur 26 1 27 (nw 27 M)))))))))))) from ?_)
  exact h
def i7_33 (M : Mm) : Mm := ur 33 6 34 (nw 34 M)
theorem k7_33 {d : Nat} {M : Mm} {f : Mm → Prop} (hd : 2 ≤ d) (h : f (i7_33 M)) : WP d 35 7 0 [.ref 33] [] 34 M (rV f) := by
  obtain ⟨d, rfl⟩ := ex1 (e := 1) hd
  refine blk 9 (fun _ => false) (show f (ur 33 6 34 (nw 34 M)) from ?_)
  exact h
def i8_35 (M : Mm) : Mm := ur 35 5 39 (nw 39 (ur 35 4 38 (nw 38 (ur 35 3 37 (nw 37 (ur 35 2 36 (nw 36 M)))))))
theorem k8_35 {d : Nat} {M : Mm} {f : Mm → Prop} (hd : 2 ≤ d) (h : f (i8_35 M)) : WP d 40 8 0 [.ref 35] [] 36 M (rV f) := by
  obtain ⟨d, rfl⟩ := ex1 (e := 1) hd
  refine blk 21 (fun _ => false) (show f (ur 35 5 39 (nw 39 (ur 35 4 38 (nw 38 (ur 35 3 37 (nw 37 (ur 35 2 36 (nw 36 M)))))))) from ?_)
  exact h
def i9_40 (M : Mm) : Mm := ur 40 3 42 (nw 42 (ur 40 2 41 (nw 41 M)))
theorem k9_40 {d : Nat} {M : Mm} {f : Mm → Prop} (hd : 2 ≤ d) (h : f (i9_40 M)) : WP d 43 9 0 [.ref 40] [] 41 M (rV f) := by
  obtain ⟨d, rfl⟩ := ex1 (e := 1) hd
  refine blk 13 (fun _ => false) (show f (ur 40 3 42 (nw 42 (ur 40 2 41 (nw 41 M)))) from ?_)
  exact h
def i2_44 (M : Mm) : Mm := sp 3 44 6 (7) (sp 3 44 5 (5) (sp 3 44 4 (1) (sp 3 44 3 (6) M)))
theorem k2_44 {d : Nat} {M : Mm} {f : Mm → Prop} (hd : 2 ≤ d) (h : f (i2_44 M)) : WP d 45 2 0 [.ref 44] [] 45 M (rV f) := by
  obtain ⟨d, rfl⟩ := ex1 (e := 1) hd
  refine blk 17 (fun _ => false) (show f (sp 3 44 6 (7) (sp 3 44 5 (5) (sp 3 44 4 (1) (sp 3 44 3 (6) M)))) from ?_)
  exact h
def i10_43 (M : Mm) : Mm := ur 43 3 47 (nw 47 (ur 43 2 46 (nw 46 (ur 43 1 45 (nw 45 (ur 43 0 44 (i2_44 (nw 44 M))))))))
theorem k10_43 {d : Nat} {M : Mm} {f : Mm → Prop} (hd : 3 ≤ d) (h : f (i10_43 M)) : WP d 48 10 0 [.ref 43] [] 44 M (rV f) := by
  obtain ⟨d, rfl⟩ := ex1 (e := 2) hd
  refine blk 22 (fun _ => false) (show WP d 45 2 0 [.ref 44] [] 45 (nw 44 M) (rV (fun N0 => f (ur 43 3 47 (nw 47 (ur 43 2 46 (nw 46 (ur 43 1 45 (nw 45 (ur 43 0 44 N0))))))))) from ?_)
  refine k2_44 (by omega) ?_
  exact h
def i2_49 (M : Mm) : Mm := sp 3 49 6 (7) (sp 3 49 5 (5) (sp 3 49 4 (1) (sp 3 49 3 (6) M)))
theorem k2_49 {d : Nat} {M : Mm} {f : Mm → Prop} (hd : 2 ≤ d) (h : f (i2_49 M)) : WP d 50 2 0 [.ref 49] [] 50 M (rV f) := by
  obtain ⟨d, rfl⟩ := ex1 (e := 1) hd
  refine blk 17 (fun _ => false) (show f (sp 3 49 6 (7) (sp 3 49 5 (5) (sp 3 49 4 (1) (sp 3 49 3 (6) M)))) from ?_)
  exact h
def i11_48 (M : Mm) : Mm := ur 48 3 52 (nw 52 (ur 48 2 51 (nw 51 (ur 48 1 50 (nw 50 (ur 48 0 49 (i2_49 (nw 49 M))))))))
theorem k11_48 {d : Nat} {M : Mm} {f : Mm → Prop} (hd : 3 ≤ d) (h : f (i11_48 M)) : WP d 53 11 0 [.ref 48] [] 49 M (rV f) := by
  obtain ⟨d, rfl⟩ := ex1 (e := 2) hd
  refine blk 22 (fun _ => false) (show WP d 50 2 0 [.ref 49] [] 50 (nw 49 M) (rV (fun N0 => f (ur 48 3 52 (nw 52 (ur 48 2 51 (nw 51 (ur 48 1 50 (nw 50 (ur 48 0 49 N0))))))))) from ?_)
  refine k2_49 (by omega) ?_
  exact h
def i12_55 (M : Mm) : Mm := ur 55 4 56 (nw 56 M)
theorem k12_55 {d : Nat} {M : Mm} {f : Mm → Prop} (hd : 2 ≤ d) (h : f (i12_55 M)) : WP d 57 12 0 [.ref 55] [] 56 M (rV f) := by
  obtain ⟨d, rfl⟩ := ex1 (e := 1) hd
  refine blk 9 (fun _ => false) (show f (ur 55 4 56 (nw 56 M)) from ?_)
  exact h
def i12_57 (M : Mm) : Mm := ur 57 4 58 (nw 58 M)
theorem k12_57 {d : Nat} {M : Mm} {f : Mm → Prop} (hd : 2 ≤ d) (h : f (i12_57 M)) : WP d 59 12 0 [.ref 57] [] 58 M (rV f) := by
  obtain ⟨d, rfl⟩ := ex1 (e := 1) hd
  refine blk 9 (fun _ => false) (show f (ur 57 4 58 (nw 58 M)) from ?_)
  exact h
def i12_59 (M : Mm) : Mm := ur 59 4 60 (nw 60 M)
theorem k12_59 {d : Nat} {M : Mm} {f : Mm → Prop} (hd : 2 ≤ d) (h : f (i12_59 M)) : WP d 61 12 0 [.ref 59] [] 60 M (rV f) := by
  obtain ⟨d, rfl⟩ := ex1 (e := 1) hd
  refine blk 9 (fun _ => false) (show f (ur 59 4 60 (nw 60 M)) from ?_)
  exact h
def i12_61 (M : Mm) : Mm := ur 61 4 62 (nw 62 M)
theorem k12_61 {d : Nat} {M : Mm} {f : Mm → Prop} (hd : 2 ≤ d) (h : f (i12_61 M)) : WP d 63 12 0 [.ref 61] [] 62 M (rV f) := by
  obtain ⟨d, rfl⟩ := ex1 (e := 1) hd
  refine blk 9 (fun _ => false) (show f (ur 61 4 62 (nw 62 M)) from ?_)
  exact h
def i12_63 (M : Mm) : Mm := ur 63 4 64 (nw 64 M)
theorem k12_63 {d : Nat} {M : Mm} {f : Mm → Prop} (hd : 2 ≤ d) (h : f (i12_63 M)) : WP d 65 12 0 [.ref 63] [] 64 M (rV f) := by
  obtain ⟨d, rfl⟩ := ex1 (e := 1) hd
  refine blk 9 (fun _ => false) (show f (ur 63 4 64 (nw 64 M)) from ?_)
  exact h
def i12_65 (M : Mm) : Mm := ur 65 4 66 (nw 66 M)
theorem k12_65 {d : Nat} {M : Mm} {f : Mm → Prop} (hd : 2 ≤ d) (h : f (i12_65 M)) : WP d 67 12 0 [.ref 65] [] 66 M (rV f) := by
  obtain ⟨d, rfl⟩ := ex1 (e := 1) hd
  refine blk 9 (fun _ => false) (show f (ur 65 4 66 (nw 66 M)) from ?_)
  exact h
def i178_67 (M : Mm) : Mm := ur 67 64 106 (nw 106 (ur 67 63 105 (nw 105 (ur 67 62 104 (nw 104 (ur 67 61 103 (ia 103 5 (-1) (ia 103 4 (-1) (ia 103 3 (-1) (ia 103 2 (-1) (ia 103 1 (-1) (ia 103 0 (-1) (nw 103 (ur 67 60 102 (nw 102 (ur 67 58 101 (nw 101 (ur 67 56 100 (nw 100 (ur 67 55 99 (nw 99 (ur 67 53 98 (nw 98 (ur 67 51 97 (nw 97 (ur 67 50 96 (nw 96 (ur 67 49 95 (nw 95 (ur 67 48 94 (nw 94 (ur 67 46 93 (nw 93 (ur 67 45 92 (nw 92 (ur 67 44 91 (nw 91 (ur 67 43 90 (nw 90 (ur 67 42 89 (nw 89 (ur 67 40 88 (nw 88 (ur 67 36 87 (nw 87 (ur 67 35 86 (nw 86 (ur 67 27 85 (nw 85 (ur 67 26 84 (nw 84 (ur 67 25 83 (nw 83 (ur 67 24 82 (nw 82 (ur 67 23 81 (nw 81 (ur 67 22 80 (nw 80 (ur 67 21 79 (nw 79 (ur 67 15 78 (nw 78 (ur 67 14 77 (nw 77 (ur 67 13 76 (nw 76 (ur 67 12 75 (nw 75 (ur 67 11 74 (nw 74 (ur 67 8 73 (nw 73 (ur 67 6 72 (nw 72 (ur 67 5 71 (nw 71 (ur 67 4 70 (nw 70 (ur 67 3 69 (nw 69 (ur 67 1 68 (ia 68 6 (7) (ia 68 5 (5) (ia 68 4 (1) (ia 68 3 (6) (ia 68 2 (0) (ia 68 1 (0) (ia 68 0 (0) (nw 68 M))))))))))))))))))))))))))))))))))))))))))))))))))))))))))))))))))))))))))))))))))))))))))
set_option maxRecDepth 100000 in
theorem k178_67 {d : Nat} {M : Mm} {f : Mm → Prop} (hd : 2 ≤ d) (h : f (i178_67 M)) : WP d 107 178 0 [.ref 67] [] 68 M (rV f) := by
  obtain ⟨d, rfl⟩ := ex1 (e := 1) hd
  refine blk 213 (fun _ => false) (show f (ur 67 64 106 (nw 106 (ur 67 63 105 (nw 105 (ur 67 62 104 (nw 104 (ur 67 61 103 (ia 103 5 (-1) (ia 103 4 (-1) (ia 103 3 (-1) (ia 103 2 (-1) (ia 103 1 (-1) (ia 103 0 (-1) (nw 103 (ur 67 60 102 (nw 102 (ur 67 58 101 (nw 101 (ur 67 56 100 (nw 100 (ur 67 55 99 (nw 99 (ur 67 53 98 (nw 98 (ur 67 51 97 (nw 97 (ur 67 50 96 (nw 96 (ur 67 49 95 (nw 95 (ur 67 48 94 (nw 94 (ur 67 46 93 (nw 93 (ur 67 45 92 (nw 92 (ur 67 44 91 (nw 91 (ur 67 43 90 (nw 90 (ur 67 42 89 (nw 89 (ur 67 40 88 (nw 88 (ur 67 36 87 (nw 87 (ur 67 35 86 (nw 86 (ur 67 27 85 (nw 85 (ur 67 26 84 (nw 84 (ur 67 25 83 (nw 83 (ur 67 24 82 (nw 82 (ur 67 23 81 (nw 81 (ur 67 22 80 (nw 80 (ur 67 21 79 (nw 79 (ur 67 15 78 (nw 78 (ur 67 14 77 (nw 77 (ur 67 13 76 (nw 76 (ur 67 12 75 (nw 75 (ur 67 11 74 (nw 74 (ur 67 8 73 (nw 73 (ur 67 6 72 (nw 72 (ur 67 5 71 (nw 71 (ur 67 4 70 (nw 70 (ur 67 3 69 (nw 69 (ur 67 1 68 (ia 68 6 (7) (ia 68 5 (5) (ia 68 4 (1) (ia 68 3 (6) (ia 68 2 (0) (ia 68 1 (0) (ia 68 0 (0) (nw 68 M))))))))))))))))))))))))))))))))))))))))))))))))))))))))))))))))))))))))))))))))))))))))))) from ?_)
  exact h
