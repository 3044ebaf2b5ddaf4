/-! CLIMBING -/
theorem iI_s1 (n : Nat) : iI (n : Nat) + 1 = iI ((n + 1 : Nat) : Int) := by
  rw [show (1 : Int32) = iI 1 from rfl, iI_add]
  rfl
