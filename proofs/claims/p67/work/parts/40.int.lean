/-! ints by their numbers -/
def iI (z : Int) : Int32 := Int32.ofInt z
theorem iI_nI (n : Nat) : nI n = iI n := by
  show Int32.ofNat n = Int32.ofInt n
  rw [Int32.ofInt_eq_ofNat]
theorem iI_lit (n : Nat) : (OfNat.ofNat n : Int32) = iI n := iI_nI n
theorem iI_add (a b : Int) : iI a + iI b = iI (a + b) := (Int32.ofInt_add a b).symm
theorem iI_sub (a b : Int) : iI a - iI b = iI (a - b) := (Int32.ofInt_sub a b).symm
theorem iI_mul (a b : Int) : iI a * iI b = iI (a * b) := (Int32.ofInt_mul a b).symm
theorem iI_toInt {z : Int} (h1 : -2147483648 ≤ z) (h2 : z < 2147483648) : (iI z).toInt = z := Int32.toInt_ofInt_of_le h1 h2
theorem iI_of (x : Int32) : x = iI x.toInt := (Int32.ofInt_toInt x).symm
theorem iI_lt {a b : Int} (ha1 : -2147483648 ≤ a) (ha2 : a < 2147483648) (hb1 : -2147483648 ≤ b) (hb2 : b < 2147483648) : iI a < iI b ↔ a < b := by
  rw [Int32.lt_iff_toInt_lt, iI_toInt ha1 ha2, iI_toInt hb1 hb2]
theorem iI_le {a b : Int} (ha1 : -2147483648 ≤ a) (ha2 : a < 2147483648) (hb1 : -2147483648 ≤ b) (hb2 : b < 2147483648) : iI a ≤ iI b ↔ a ≤ b := by
  rw [Int32.le_iff_toInt_le, iI_toInt ha1 ha2, iI_toInt hb1 hb2]
theorem iI_eq {a b : Int} (ha1 : -2147483648 ≤ a) (ha2 : a < 2147483648) (hb1 : -2147483648 ≤ b) (hb2 : b < 2147483648) : iI a = iI b ↔ a = b := by
  rw [← Int32.toInt_inj, iI_toInt ha1 ha2, iI_toInt hb1 hb2]
theorem iI_cl {z : Int} (h1 : 0 ≤ z) (h2 : z < 2147483648) : (iI z).toNatClampNeg = z.toNat := by
  show (iI z).toInt.toNat = z.toNat
  rw [iI_toInt (by omega) h2]
theorem iI_in {z : Int} {N : Nat} (h1 : 0 ≤ z) (h2 : z < N) (h3 : z < 2147483648) : vp_in (iI z) N := by
  rw [vp_in_iff, iI_toInt (by omega) h3]
  omega
theorem iI_inN {z N : Nat} (h2 : z < N) (h3 : z < 2147483648) : vp_in (iI z) N := iI_in (by omega) (by omega) (by omega)
theorem iI_clN {z : Nat} (h2 : z < 2147483648) : (iI z).toNatClampNeg = z := by
  rw [iI_cl (by omega) (by omega)]
  omega
theorem iI_succ (n : Nat) : iI n + 1 = iI ((n + 1 : Nat) : Int) := by
  rw [iI_lit 1, iI_add]
  rfl
theorem iI_and (a b : Nat) : iI a &&& iI b = iI ((a &&& b : Nat) : Int) := by
  rw [← iI_nI, ← iI_nI, ← iI_nI]
  exact fa_and a b
theorem iI_or (a b : Nat) : iI a ||| iI b = iI ((a ||| b : Nat) : Int) := by
  rw [← iI_nI, ← iI_nI, ← iI_nI]
  exact fa_or a b
theorem iI_shl1 : ∀ k, k < 31 → (1 : Int32) <<< (iI (k : Nat) &&& 31) = iI ((2 ^ k : Nat) : Int) := by decide +kernel
theorem iI_shrS : ∀ k, k < 32 → ((iI (k : Nat) &&& (31 : Int32)).toBitVec.smod 32).toNat = k := by decide +kernel
theorem iI_shr {n k : Nat} (hn : n < 2147483648) (hk : k < 32) : iI n >>> (iI (k : Nat) &&& 31) = iI ((n / 2 ^ k : Nat) : Int) := by
  rw [← iI_nI, ← iI_nI (n / 2 ^ k)]
  exact pk_shrN (by omega) _ k (iI_shrS k hk)
/-- bit k of a set -/
theorem iI_bit {n k : Nat} (hn : n < 2147483648) (hk : k < 32) : (iI n >>> (iI (k : Nat) &&& 31)) &&& (1 : Int32) = iI (if n.testBit k then 1 else 0) := by
  rw [iI_shr hn hk, iI_lit 1, show ((1 : Nat) : Int) = ((1 : Nat) : Int) from rfl, iI_and]
  congr 1
  rw [Nat.testBit_eq_decide_div_mod_eq, Nat.and_one_is_mod]
  rcases Nat.mod_two_eq_zero_or_one (n / 2 ^ k) with h | h <;> simp [h]
theorem iI_inj4 {a b : Nat} (ha : a < 4096) (hb : b < 4096) : iI a = iI b ↔ a = b := by
  rw [iI_eq (by omega) (by omega) (by omega) (by omega)]
  omega
/-- the complement of a set, met with a set -/
theorem iI_andn {a b : Nat} (ha : a < 4096) : iI a &&& (iI b ^^^ (-1 : Int32)) = iI ((a &&& (4095 ^^^ b) : Nat) : Int) := by
  rw [← iI_nI, ← iI_nI, ← iI_nI, show (-1 : Int32) = nI (2 ^ 32 - 1) from by decide +kernel, fb_xorI, fa_and]
  congr 1
  apply Nat.eq_of_testBit_eq
  intro i
  rw [Nat.testBit_and, Nat.testBit_and, Nat.testBit_xor, Nat.testBit_xor, show 4095 = 2 ^ 12 - 1 from rfl, Nat.testBit_two_pow_sub_one, Nat.testBit_two_pow_sub_one]
  by_cases hi : i < 12
  · simp [hi, show i < 32 by omega]
  · have h1 : a.testBit i = false := Nat.testBit_lt_two_pow (Nat.lt_of_lt_of_le ha (show 2 ^ 12 ≤ 2 ^ i from Nat.pow_le_pow_right (by omega) (by omega)))
    simp [h1]
