/-! THE METHODS AND CLASSES ARE AS THE WORDS SAY -/
def okR (z : Nat) (t : Option FieldType) : Bool := match t with
  | none => Nat.beq z 0
  | some .int => Nat.beq z 1
  | some .long => Nat.beq z 2
  | some .boolean => Nat.beq z 4
  | some (.object _) => Nat.beq z 3
  | some (.array _) => Nat.beq z 3
  | _ => false
def okM (mu : Nat) : Bool := Nat.beq mu 1 || (wIs (wC mu) (6, 0, 0, mu, 0) && (wIs (wI mu) (bif mS mu then 8 else 7, 0, 0, mu, 0) && ((mS mu || (decide (mnm mu = "<init>") || wIs (wS mu) (9, 0, 0, mu, 0))) && (wIs (wN mu) (10, mo mu, 0, 0, 0) && (decide ((parseMethodDescriptor (mds mu)).map (fun d => d.parameters.length) = some (mN mu)) && (Nat.ble (mL mu) 40 && (okR (rz mu) (Rt mu) && (mS mu || Nat.beq (mc mu) (mo mu)))))))))
set_option maxRecDepth 100000 in
theorem okM_all : (List.range 303).all okM = true := by decide +kernel
set_option maxRecDepth 100000 in
theorem okN_all : (List.range 15).all (fun c => plainName (cnm c) && (decide (cnm c ≠ "java/lang/invoke/MethodHandle") && decide (cnm c ≠ "java/lang/invoke/VarHandle"))) = true := by decide +kernel
theorem mo_lt : (List.range 304).all (fun mu => Nat.blt (mo mu) 18) = true := by decide +kernel
set_option maxRecDepth 100000 in
theorem okF_all : (List.range 13).all (fun ci => (List.range (cq ci).2.2).all (fun k => decide (parseFieldDescriptor (cF ci k).2.2.1 = some (cty ci k)) && (match cty ci k with | .int => Nat.beq (fk ci k) 0 | .boolean => Nat.beq (fk ci k) 3 | .object _ => Nat.beq (fk ci k) 2 | .array _ => Nat.beq (fk ci k) 2 | _ => false))) = true := by decide +kernel
theorem inC (ci : Nat) (h : ci < 13) : ∀ w ∈ u_ws (cq ci).1 (cq ci).2.1 (cq ci).2.2, w ∈ lw_tbl := by
  revert ci
  exact (ok_s (ok_s (ok_s (ok_s (ok_s (ok_s (ok_s (ok_s (ok_s (ok_s (ok_s (ok_s (ok_s ok_z inX0) inX1) inX2) inX3) inX4) inX5) inX6) inX7) inX8) inX9) inX10) inX11) inX12)
theorem nmC (ci : Nat) (h : ci < 13) : ∀ a, a < (cq ci).2.2 → ∀ b, b < (cq ci).2.2 → a ≠ b → (cF ci a).2.1 ≠ (cF ci b).2.1 := by
  revert ci
  exact (ok_s (ok_s (ok_s (ok_s (ok_s (ok_s (ok_s (ok_s (ok_s (ok_s (ok_s (ok_s (ok_s ok_z nmX0) nmX1) nmX2) nmX3) nmX4) nmX5) nmX6) nmX7) nmX8) nmX9) nmX10) nmX11) nmX12)
theorem tyC (ci : Nat) (h : ci < 13) : ∀ k, k < (cq ci).2.2 → parseFieldDescriptor (cF ci k).2.2.1 = some (cty ci k) := by
  revert ci
  exact (ok_s (ok_s (ok_s (ok_s (ok_s (ok_s (ok_s (ok_s (ok_s (ok_s (ok_s (ok_s (ok_s ok_z tyX0_ok) tyX1_ok) tyX2_ok) tyX3_ok) tyX4_ok) tyX5_ok) tyX6_ok) tyX7_ok) tyX8_ok) tyX9_ok) tyX10_ok) tyX11_ok) tyX12_ok)
theorem clC (ci : Nat) (h : ci < 13) : vwCl[ci]? = some ((cq ci).1, (cq ci).2.1, (cq ci).2.2) := by
  revert ci
  exact (ok_s (ok_s (ok_s (ok_s (ok_s (ok_s (ok_s (ok_s (ok_s (ok_s (ok_s (ok_s (ok_s ok_z rfl) rfl) rfl) rfl) rfl) rfl) rfl) rfl) rfl) rfl) rfl) rfl) rfl)
theorem iniC (ci : Nat) (h : ci < 13) : ∃ c, c < NW ∧ wQ c = (11, 0, 0, ci, 0) := by
  revert ci
  exact (ok_s (ok_s (ok_s (ok_s (ok_s (ok_s (ok_s (ok_s (ok_s (ok_s (ok_s (ok_s (ok_s ok_z ⟨284, by decide +kernel, rfl⟩) ⟨266, by decide +kernel, rfl⟩) ⟨184, by decide +kernel, rfl⟩) ⟨148, by decide +kernel, rfl⟩) ⟨178, by decide +kernel, rfl⟩) ⟨247, by decide +kernel, rfl⟩) ⟨298, by decide +kernel, rfl⟩) ⟨316, by decide +kernel, rfl⟩) ⟨228, by decide +kernel, rfl⟩) ⟨330, by decide +kernel, rfl⟩) ⟨208, by decide +kernel, rfl⟩) ⟨140, by decide +kernel, rfl⟩) ⟨993, by decide +kernel, rfl⟩)
theorem initC (ci : Nat) (h : ci < 13) : ∃ c, c < NW ∧ wT c = .initialized (cq ci).1 := by
  revert ci
  exact (ok_s (ok_s (ok_s (ok_s (ok_s (ok_s (ok_s (ok_s (ok_s (ok_s (ok_s (ok_s (ok_s ok_z ⟨131, by decide +kernel, rfl⟩) ⟨130, by decide +kernel, rfl⟩) ⟨126, by decide +kernel, rfl⟩) ⟨124, by decide +kernel, rfl⟩) ⟨125, by decide +kernel, rfl⟩) ⟨129, by decide +kernel, rfl⟩) ⟨132, by decide +kernel, rfl⟩) ⟨133, by decide +kernel, rfl⟩) ⟨128, by decide +kernel, rfl⟩) ⟨134, by decide +kernel, rfl⟩) ⟨127, by decide +kernel, rfl⟩) ⟨123, by decide +kernel, rfl⟩) ⟨135, by decide +kernel, rfl⟩)
