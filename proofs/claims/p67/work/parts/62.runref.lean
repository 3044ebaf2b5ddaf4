/-! THE SEARCH by the reference: three numbers a step in one row -/
theorem i3 (x : Nat) {w : Nat} (hx : x < 100000) : ((3 : Int32) * iI (x : Nat)) + iI (w : Nat) = iI ((3 * x + w : Nat) : Int) := by
  rw [iI_lit 3, iI_mul, iI_add]
  exact congrArg iI (by omega)
