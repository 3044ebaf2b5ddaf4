/-! THE COMMON WORDS of class and reference. A setup is a row s of 66 numbers, in the reference's order: 0 items, 1 capacity, 2 limit, 3 must, 4 never, 5 the choice at hand, from 6 on five numbers an item: weight, gain, joy, bars, needs. -/
def sm (s : Nat → Nat) (w set : Nat) : Nat → Nat
  | 0 => 0
  | k + 1 => sm s w set k + (if set.testBit k then s (6 + 5 * k + w) else 0)
def ors (s : Nat → Nat) (w set : Nat) : Nat → Nat
  | 0 => 0
  | k + 1 => ors s w set k ||| (if set.testBit k then s (6 + 5 * k + w) else 0)
def pcn (set : Nat) : Nat → Nat
  | 0 => 0
  | k + 1 => pcn set k + (if set.testBit k then 1 else 0)
/-- the reasons but the weight -/
def rfb (s : Nat → Nat) (set : Nat) : Nat :=
  if s 2 < pcn set 12 then 2 else if ors s 3 set (s 0) &&& set ≠ 0 then 3 else if ors s 4 set (s 0) &&& (4095 ^^^ set) ≠ 0 then 4 else if s 3 &&& (4095 ^^^ set) ≠ 0 then 5 else if s 4 &&& set ≠ 0 then 6 else 0
def rf (s : Nat → Nat) (cap set : Nat) : Nat := if cap < sm s 0 set (s 0) then 1 else rfb s set
/-- a setup that a desk can have -/
def WF (s : Nat → Nat) : Prop := s 0 ≤ 12 ∧ s 1 ≤ 999 ∧ s 2 ≤ 12 ∧ s 3 < 2 ^ s 0 ∧ s 4 < 2 ^ s 0 ∧ s 5 < 2 ^ s 0 ∧ ∀ k, k < s 0 → s (6 + 5 * k) ≤ 99 ∧ s (6 + 5 * k + 1) ≤ 99 ∧ s (6 + 5 * k + 2) ≤ 99 ∧ s (6 + 5 * k + 3) < 2 ^ s 0 ∧ s (6 + 5 * k + 4) < 2 ^ s 0
theorem sm_le {s : Nat → Nat} {w set M : Nat} : ∀ {n : Nat}, (∀ k, k < n → s (6 + 5 * k + w) ≤ M) → sm s w set n ≤ n * M
  | 0, _ => by simp [sm]
  | n + 1, h => by
    have h1 := sm_le (set := set) (n := n) fun k hk => h k (by omega)
    have h2 := h n (by omega)
    have h3 : (n + 1) * M = n * M + M := Nat.succ_mul n M
    simp only [sm]
    split <;> omega
theorem ors_lt {s : Nat → Nat} {w set b : Nat} : ∀ {n : Nat}, (∀ k, k < n → s (6 + 5 * k + w) < 2 ^ b) → ors s w set n < 2 ^ b
  | 0, _ => by simp only [ors]; exact Nat.two_pow_pos b
  | n + 1, h => by
    have h1 := ors_lt (set := set) (n := n) fun k hk => h k (by omega)
    have h2 := h n (by omega)
    simp only [ors]
    refine Nat.or_lt_two_pow h1 ?_
    split
    · exact h2
    · exact Nat.two_pow_pos b
/-- the sums of a set with one more item, its last -/
theorem sm_high {s : Nat → Nat} {w set i : Nat} (h : set < 2 ^ i) : sm s w (2 ^ i + set) (i + 1) = sm s w set i + s (6 + 5 * i + w) := by
  have hb : ∀ k, k < i → (2 ^ i + set).testBit k = set.testBit k := fun k hk => Nat.testBit_two_pow_add_gt hk set
  have key : ∀ m, m ≤ i → sm s w (2 ^ i + set) m = sm s w set m := by
    intro m
    induction m with
    | zero => intro _; rfl
    | succ m ih => intro hm; simp only [sm]; rw [ih (by omega), hb m (by omega)]
  have ht : (2 ^ i + set).testBit i = true := by
    rw [Nat.testBit_two_pow_add_eq, Nat.testBit_lt_two_pow h]
    rfl
  simp only [sm]
  rw [key i (Nat.le_refl i), ht]
  simp
theorem ors_high {s : Nat → Nat} {w set i : Nat} (h : set < 2 ^ i) : ors s w (2 ^ i + set) (i + 1) = ors s w set i ||| s (6 + 5 * i + w) := by
  have hb : ∀ k, k < i → (2 ^ i + set).testBit k = set.testBit k := fun k hk => Nat.testBit_two_pow_add_gt hk set
  have key : ∀ m, m ≤ i → ors s w (2 ^ i + set) m = ors s w set m := by
    intro m
    induction m with
    | zero => intro _; rfl
    | succ m ih => intro hm; simp only [ors]; rw [ih (by omega), hb m (by omega)]
  have ht : (2 ^ i + set).testBit i = true := by
    rw [Nat.testBit_two_pow_add_eq, Nat.testBit_lt_two_pow h]
    rfl
  simp only [ors]
  rw [key i (Nat.le_refl i), ht]
  simp
/-- a set below 2^i has no item i -/
theorem sm_low {s : Nat → Nat} {w set i : Nat} (h : set < 2 ^ i) : sm s w set (i + 1) = sm s w set i := by
  simp only [sm]
  rw [Nat.testBit_lt_two_pow h]
  simp
theorem ors_low {s : Nat → Nat} {w set i : Nat} (h : set < 2 ^ i) : ors s w set (i + 1) = ors s w set i := by
  simp only [ors]
  rw [Nat.testBit_lt_two_pow h]
  simp
/-- the class's setup object holds s -/
def suP (s : Nat → Nat) (items capacity limit must never hand : Int32) (weight gain joy bars needs : Nat → Int32) : Prop :=
  items = iI (s 0) ∧ capacity = iI (s 1) ∧ limit = iI (s 2) ∧ must = iI (s 3) ∧ never = iI (s 4) ∧ hand = iI (s 5) ∧ ∀ k, k < s 0 → weight k = iI (s (6 + 5 * k)) ∧ gain k = iI (s (6 + 5 * k + 1)) ∧ joy k = iI (s (6 + 5 * k + 2)) ∧ bars k = iI (s (6 + 5 * k + 3)) ∧ needs k = iI (s (6 + 5 * k + 4))
/-- five rows hold the sums and rules of the sets below m, of the first n items -/
def chA (s : Nat → Nat) (n m : Nat) (weight gain joy barred needed : Nat → Int32) : Prop :=
  (∀ q, q < m → weight q = iI (sm s 0 q n)) ∧ (∀ q, q < m → gain q = iI (sm s 1 q n)) ∧ (∀ q, q < m → joy q = iI (sm s 2 q n)) ∧ (∀ q, q < m → barred q = iI (ors s 3 q n)) ∧ ∀ q, q < m → needed q = iI (ors s 4 q n)
/-- the class's choices are those of s -/
def chP (s : Nat → Nat) (sets limit must never : Int32) (weight gain joy barred needed : Nat → Int32) : Prop :=
  sets = iI ((2 ^ s 0 : Nat) : Int) ∧ limit = iI (s 2) ∧ must = iI (s 3) ∧ never = iI (s 4) ∧ chA s (s 0) (2 ^ s 0) weight gain joy barred needed
theorem upd_ext {a F : Nat → Int32} {m : Nat} {v : Int32} (h : ∀ q, q < m → a q = F q) (hv : v = F m) : ∀ q, q < m + 1 → upd a m v q = F q := by
  intro q hq
  by_cases e : q = m
  · rw [e, pk_us]; exact hv
  · rw [pk_un e]; exact h q (by omega)
