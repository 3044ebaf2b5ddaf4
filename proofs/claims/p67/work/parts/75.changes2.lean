/-! CHANGES of items -/
/-- a row of items after a bit is turned on both sides -/
abbrev barS (s : Nat → Nat) (i j : Nat) (on : Bool) : Nat → Nat := su (su s (6 + 5 * i + 3) (tb (s (6 + 5 * i + 3)) j on)) (6 + 5 * j + 3) (tb (s (6 + 5 * j + 3)) i on)
