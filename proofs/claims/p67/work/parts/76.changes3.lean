/-! CHANGES of items: the reference's -/
/-- the first x numbers of item n are 0 -/
def zz (n : Nat) (f : Nat → Int32) (x : Nat) : Nat → Int32 := fun j => if 6 + 5 * n ≤ j ∧ j < 6 + 5 * n + x then 0 else f j
