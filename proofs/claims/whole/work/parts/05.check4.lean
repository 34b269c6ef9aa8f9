set_option maxRecDepth 100000 in
theorem kM303_a0 : (List.range 110).all (fun i => okOp 303 (0 + i) (kM303 (0 + i))) = true := by decide +kernel
set_option maxRecDepth 100000 in
theorem kM303_a110 : (List.range 110).all (fun i => okOp 303 (110 + i) (kM303 (110 + i))) = true := by decide +kernel
set_option maxRecDepth 100000 in
theorem kM303_a220 : (List.range 110).all (fun i => okOp 303 (220 + i) (kM303 (220 + i))) = true := by decide +kernel
set_option maxRecDepth 100000 in
theorem kM303_a330 : (List.range 110).all (fun i => okOp 303 (330 + i) (kM303 (330 + i))) = true := by decide +kernel
set_option maxRecDepth 100000 in
theorem kM303_a440 : (List.range 110).all (fun i => okOp 303 (440 + i) (kM303 (440 + i))) = true := by decide +kernel
set_option maxRecDepth 100000 in
theorem kM303_a550 : (List.range 110).all (fun i => okOp 303 (550 + i) (kM303 (550 + i))) = true := by decide +kernel
set_option maxRecDepth 100000 in
theorem kM303_a660 : (List.range 110).all (fun i => okOp 303 (660 + i) (kM303 (660 + i))) = true := by decide +kernel
set_option maxRecDepth 100000 in
theorem kM303_a770 : (List.range 110).all (fun i => okOp 303 (770 + i) (kM303 (770 + i))) = true := by decide +kernel
set_option maxRecDepth 100000 in
theorem kM303_a880 : (List.range 110).all (fun i => okOp 303 (880 + i) (kM303 (880 + i))) = true := by decide +kernel
set_option maxRecDepth 100000 in
theorem kM303_a990 : (List.range 110).all (fun i => okOp 303 (990 + i) (kM303 (990 + i))) = true := by decide +kernel
set_option maxRecDepth 100000 in
theorem kM303_a1100 : (List.range 110).all (fun i => okOp 303 (1100 + i) (kM303 (1100 + i))) = true := by decide +kernel
set_option maxRecDepth 100000 in
theorem kM303_a1210 : (List.range 110).all (fun i => okOp 303 (1210 + i) (kM303 (1210 + i))) = true := by decide +kernel
set_option maxRecDepth 100000 in
theorem kM303_a1320 : (List.range 110).all (fun i => okOp 303 (1320 + i) (kM303 (1320 + i))) = true := by decide +kernel
set_option maxRecDepth 100000 in
theorem kM303_a1430 : (List.range 110).all (fun i => okOp 303 (1430 + i) (kM303 (1430 + i))) = true := by decide +kernel
set_option maxRecDepth 100000 in
theorem kM303_a1540 : (List.range 89).all (fun i => okOp 303 (1540 + i) (kM303 (1540 + i))) = true := by decide +kernel
theorem kM303_k : okMu 303 := by
  intro pc
  by_cases h0 : pc < 110
  · have h := List.all_eq_true.mp kM303_a0 (pc - 0) (List.mem_range.mpr (by omega))
    rw [show 0 + (pc - 0) = pc by omega] at h
    exact h
  by_cases h110 : pc < 220
  · have h := List.all_eq_true.mp kM303_a110 (pc - 110) (List.mem_range.mpr (by omega))
    rw [show 110 + (pc - 110) = pc by omega] at h
    exact h
  by_cases h220 : pc < 330
  · have h := List.all_eq_true.mp kM303_a220 (pc - 220) (List.mem_range.mpr (by omega))
    rw [show 220 + (pc - 220) = pc by omega] at h
    exact h
  by_cases h330 : pc < 440
  · have h := List.all_eq_true.mp kM303_a330 (pc - 330) (List.mem_range.mpr (by omega))
    rw [show 330 + (pc - 330) = pc by omega] at h
    exact h
  by_cases h440 : pc < 550
  · have h := List.all_eq_true.mp kM303_a440 (pc - 440) (List.mem_range.mpr (by omega))
    rw [show 440 + (pc - 440) = pc by omega] at h
    exact h
  by_cases h550 : pc < 660
  · have h := List.all_eq_true.mp kM303_a550 (pc - 550) (List.mem_range.mpr (by omega))
    rw [show 550 + (pc - 550) = pc by omega] at h
    exact h
  by_cases h660 : pc < 770
  · have h := List.all_eq_true.mp kM303_a660 (pc - 660) (List.mem_range.mpr (by omega))
    rw [show 660 + (pc - 660) = pc by omega] at h
    exact h
  by_cases h770 : pc < 880
  · have h := List.all_eq_true.mp kM303_a770 (pc - 770) (List.mem_range.mpr (by omega))
    rw [show 770 + (pc - 770) = pc by omega] at h
    exact h
  by_cases h880 : pc < 990
  · have h := List.all_eq_true.mp kM303_a880 (pc - 880) (List.mem_range.mpr (by omega))
    rw [show 880 + (pc - 880) = pc by omega] at h
    exact h
  by_cases h990 : pc < 1100
  · have h := List.all_eq_true.mp kM303_a990 (pc - 990) (List.mem_range.mpr (by omega))
    rw [show 990 + (pc - 990) = pc by omega] at h
    exact h
  by_cases h1100 : pc < 1210
  · have h := List.all_eq_true.mp kM303_a1100 (pc - 1100) (List.mem_range.mpr (by omega))
    rw [show 1100 + (pc - 1100) = pc by omega] at h
    exact h
  by_cases h1210 : pc < 1320
  · have h := List.all_eq_true.mp kM303_a1210 (pc - 1210) (List.mem_range.mpr (by omega))
    rw [show 1210 + (pc - 1210) = pc by omega] at h
    exact h
  by_cases h1320 : pc < 1430
  · have h := List.all_eq_true.mp kM303_a1320 (pc - 1320) (List.mem_range.mpr (by omega))
    rw [show 1320 + (pc - 1320) = pc by omega] at h
    exact h
  by_cases h1430 : pc < 1540
  · have h := List.all_eq_true.mp kM303_a1430 (pc - 1430) (List.mem_range.mpr (by omega))
    rw [show 1430 + (pc - 1430) = pc by omega] at h
    exact h
  by_cases h1540 : pc < 1629
  · have h := List.all_eq_true.mp kM303_a1540 (pc - 1540) (List.mem_range.mpr (by omega))
    rw [show 1540 + (pc - 1540) = pc by omega] at h
    exact h
  show okOp 303 pc (bif Nat.blt pc 1629 then _ else oBad) = true
  rw [bl_c (by omega)]
  rfl
theorem ok_to304 : ∀ mu, mu < 304 → okMu mu := (ok_s ok_to303 kM303_k)
