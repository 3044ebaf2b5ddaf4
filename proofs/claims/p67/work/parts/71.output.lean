/-! OUTPUT: the bytes that class and reference put, as a list -/
def bv (v : Int32) : Int32 := vp_nar .byte v.toInt8.toInt32
theorem iI_divN {a b : Nat} (ha : a < 2147483648) (hb : b < 2147483648) (h0 : 0 < b) : iI a / iI b = iI ((a / b : Nat) : Int) := by
  have hq : a / b ≤ a := Nat.div_le_self a b
  have q0 : (0 : Int) ≤ ((a / b : Nat) : Int) := Int.natCast_nonneg _
  have hq2 : ((a / b : Nat) : Int) ≤ (a : Int) := Int.ofNat_le.mpr hq
  have hne : iI (b : Nat) ≠ -1 := fun z => by
    have := congrArg Int32.toInt z
    rw [iI_toInt (by omega) (by omega)] at this
    have e : (-1 : Int32).toInt = -1 := by decide
    rw [e] at this
    omega
  rw [← Int32.toInt_inj, Int32.toInt_div_of_ne_right _ _ hne, iI_toInt (by omega) (by omega), iI_toInt (by omega) (by omega), iI_toInt (by omega) (by omega), Int.tdiv_eq_ediv_of_nonneg (by omega)]
  rfl
/-- one digit's byte -/
def dgt (n u : Nat) : Int32 := bv (48 + ((iI n / iI u) - (iI n / iI u) / 10 * 10))
def dg (n : Nat) : List Int32 := if n < 10 then [dgt n 1] else if n < 100 then [dgt n 10, dgt n 1] else if n < 1000 then [dgt n 100, dgt n 10, dgt n 1] else [dgt n 1000, dgt n 100, dgt n 10, dgt n 1]
theorem l2 (l : List Int32) (a b : Int32) : (l ++ [a]) ++ [b] = l ++ [a, b] := by rw [List.append_assoc]; rfl
theorem l4 (l : List Int32) (a b c d : Int32) : (l ++ [a, b, c]) ++ [d] = l ++ [a, b, c, d] := by rw [List.append_assoc]; rfl
/-- a point's own bytes -/
def pw (h : Nat → Int) (n : Nat) : List Int32 := dg (PG h n) ++ [bv 44] ++ dg (PJ h n).toNat ++ [bv (if MK h n = 2 then 33 else if MK h n = 1 then 43 else 46)]
theorem sp_hasBit {set k : Nat} (hs : set < 2147483648) (hk : k < 32) {Q : Int32 → Prop} (hQ : Q (if set.testBit k then 1 else 0)) : wp_X10_hasBit (iI set) (iI (k : Nat)) Q := by
  unfold wp_X10_hasBit
  rw [iI_bit hs hk]
  by_cases c : set.testBit k
  · rw [if_pos c] at hQ ⊢
    exact ⟨fun h => absurd h (by decide), fun _ => hQ⟩
  · rw [if_neg c] at hQ ⊢
    exact ⟨fun _ => hQ, fun h => absurd rfl h⟩
/-! the reference's -/
