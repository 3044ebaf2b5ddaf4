/-! QUESTIONS OF THE FRONTIER: best, nearest, beaten, counts -/
/-- the first place with the greatest value, or -1 -/
def gb (v : Nat → Int) : Nat → Int
  | 0 => -1
  | n + 1 => if gb v n = -1 ∨ v (gb v n).toNat < v n then (n : Int) else gb v n
/-- does point n beat a choice of gain g and joy j -/
def bts (h : Nat → Int) (g j : Int) (n : Nat) : Bool := decide (g ≤ PG h n ∧ j ≤ PJ h n ∧ (g < PG h n ∨ j < PJ h n))
theorem sp_beats {h : Nat → Int} (hs : stP h) {gain joy : Nat → Int32} (hG : ptG h gain joy) {n : Nat} (hn : n < PN h) {g j : Int} (g1 : -2147483648 ≤ g) (g2 : g < 2147483648) (j1 : -2147483648 ≤ j) (j2 : j < 2147483648) {Q : Int32 → Prop} (hQ : Q (if bts h g j n = true then 1 else 0)) : wp_X2_beats (iI (n : Nat)) (iI g) (iI j) gain joy Q := by
  have hN := PN_le h
  have hg := PG_rng hn
  have hj := PJ_rng hs hn
  have hi : vp_in (iI (n : Nat)) 1189 := in_lit (by omega) (by omega)
  unfold wp_X2_beats
  rw [iI_clN (by omega), hG.1 n hn, hG.2 n hn, iI_lt (by omega) (by omega) (by omega) (by omega), iI_lt (by omega) (by omega) (by omega) (by omega), iI_lt (by omega) (by omega) (by omega) (by omega), iI_le (by omega) (by omega) (by omega) (by omega)]
  have no : (¬ bts h g j n = true) → Q 0 := fun z => by rw [if_neg z] at hQ; exact hQ
  have ye : bts h g j n = true → Q 1 := fun z => by rw [if_pos z] at hQ; exact hQ
  simp only [bts, decide_eq_true_eq] at no ye
  exact ⟨hi, fun c => no (by omega), fun c1 => ⟨hi, fun c => no (by omega), fun c2 => ⟨hi, fun c => ye (by omega), fun c3 => ⟨hi, fun c => no (by omega), fun c => ye (by omega)⟩⟩⟩⟩
