/-! THE REFERENCE'S PAIRS: each once, from above -/
def kyP (s : Nat → Nat) (q : Nat) : Int := 2048 * (sm s 1 q (s 0) : Int) + (sm s 2 q (s 0) : Int)
theorem kyP_rng {s : Nat → Nat} (hW : WF s) (q : Nat) : 0 ≤ kyP s q ∧ kyP s q < 4000000 := by
  have h1 : sm s 1 q (s 0) ≤ 1188 := sm_bd hW (by omega) q
  have h2 : sm s 2 q (s 0) ≤ 1188 := sm_bd hW (by omega) q
  unfold kyP
  omega
/-- some allowed set has these sums -/
def has_ (s : Nat → Nat) (m : Nat) (w : Int) : Prop := ∃ q, q < m ∧ rf s (s 1) q = 0 ∧ kyP s q = w
