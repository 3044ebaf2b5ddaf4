/-! A SETUP WITH ANOTHER CAPACITY, OR WITH ONE MORE ITEM NEVER -/
def su (s : Nat → Nat) (k v : Nat) : Nat → Nat := fun i => if i = k then v else s i
theorem su_ne {s : Nat → Nat} {k v i : Nat} (h : i ≠ k) : su s k v i = s i := if_neg h
theorem su_eq {s : Nat → Nat} {k v : Nat} : su s k v k = v := if_pos rfl
