section
def zz_a : Nat := 3
theorem zz_b : zz_a = 3 := rfl
end
