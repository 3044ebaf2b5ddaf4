/-! THE REFERENCE SORTS ITS PAIRS -/
def ui (a : Nat → Int) (k : Nat) (v : Int) : Nat → Int := fun i => if i = k then v else a i
theorem ui_s {a : Nat → Int} {k : Nat} {v : Int} : ui a k v k = v := if_pos rfl
theorem ui_n {a : Nat → Int} {k i : Nat} {v : Int} (h : i ≠ k) : ui a k v i = a i := if_neg h
