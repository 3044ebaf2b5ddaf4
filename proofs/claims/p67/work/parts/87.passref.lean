/-! THE REFERENCE PASSES WORDS AND NUMBERS; once there is an error it stays -/
/-- the number behind a word -/
def pB (n : Nat) (by_ : Nat → Int) (w : List Int32) (g : Int) (t : TK) : Except ER (Nat × TK) := match pW n by_ w t with
  | .ok t2 => pN n by_ g t2
  | .error e => .error e
