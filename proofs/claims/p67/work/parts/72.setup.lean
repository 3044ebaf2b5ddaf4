/-! CHANGES OF A SETUP: an item more, an item less, a bit turned, a copy -/
/-- a set without place k: those above come one down -/
def wo (v k : Nat) : Nat := (v &&& (2 ^ k - 1)) ||| (v / 2 ^ (k + 1) * 2 ^ k)
/-- a set with bit k on or off -/
def tb (v k : Nat) (on : Bool) : Nat := if on = true then v ||| 2 ^ k else v &&& (4095 ^^^ 2 ^ k)
theorem tb_lt {v k m : Nat} {on : Bool} (hv : v < 2 ^ m) (hk : k < m) : tb v k on < 2 ^ m := by
  unfold tb
  split
  · exact Nat.or_lt_two_pow hv (Nat.pow_lt_pow_right (by omega) hk)
  · exact Nat.lt_of_le_of_lt Nat.and_le_left hv
theorem sp_withBit {v k : Nat} (hv : v < 4096) (hk : k < 12) {p : Int32} {on : Bool} (hp : p = if on = true then 1 else 0) {Q : Int32 → Prop} (hQ : Q (iI ((tb v k on : Nat) : Int))) : wp_X10_withBit (iI v) (iI (k : Nat)) p Q := by
  unfold wp_X10_withBit
  unfold tb at hQ
  rw [iI_shl1 k (by omega)]
  cases on with
  | true =>
    rw [if_pos rfl] at hQ hp
    rw [iI_or]
    exact ⟨fun z => absurd (hp.symm.trans z) (by decide), fun _ => hQ⟩
  | false =>
    rw [if_neg (by decide)] at hQ hp
    rw [iI_andn hv]
    exact ⟨fun _ => hQ, fun z => absurd hp z⟩
/-- an item more -/
def adS (s : Nat → Nat) (a b c : Nat) : Nat → Nat := fun i => if i = 0 then s 0 + 1 else if i = 6 + 5 * s 0 then a else if i = 6 + 5 * s 0 + 1 then b else if i = 6 + 5 * s 0 + 2 then c else if i = 6 + 5 * s 0 + 3 then 0 else if i = 6 + 5 * s 0 + 4 then 0 else s i
theorem adS_0 {s : Nat → Nat} {a b c : Nat} : adS s a b c 0 = s 0 + 1 := if_pos rfl
theorem adS_low {s : Nat → Nat} {a b c i : Nat} (h : i ≠ 0) (h2 : i < 6 + 5 * s 0) : adS s a b c i = s i := by
  unfold adS
  rw [if_neg h, if_neg (by omega), if_neg (by omega), if_neg (by omega), if_neg (by omega), if_neg (by omega)]
theorem adS_new {s : Nat → Nat} {a b c w : Nat} (hw : w < 5) : adS s a b c (6 + 5 * s 0 + w) = if w = 0 then a else if w = 1 then b else if w = 2 then c else 0 := by
  unfold adS
  rcases (show w = 0 ∨ w = 1 ∨ w = 2 ∨ w = 3 ∨ w = 4 by omega) with rfl | rfl | rfl | rfl | rfl
  · show _ = a; rw [if_neg (by omega), if_pos (by omega)]
  · rw [if_neg (by omega), if_neg (by omega), if_pos rfl]; rfl
  · rw [if_neg (by omega), if_neg (by omega), if_neg (by omega), if_pos rfl]; rfl
  · rw [if_neg (by omega), if_neg (by omega), if_neg (by omega), if_neg (by omega), if_pos rfl]; rfl
  · rw [if_neg (by omega), if_neg (by omega), if_neg (by omega), if_neg (by omega), if_neg (by omega), if_pos rfl]; rfl
theorem WF_adS {s : Nat → Nat} (hW : WF s) (h : s 0 < 12) {a b c : Nat} (ha : a ≤ 99) (hb : b ≤ 99) (hc : c ≤ 99) : WF (adS s a b c) := by
  obtain ⟨h0, h1, h2, h3, h4, h5, h6⟩ := hW
  have e : 2 ^ (s 0 + 1) = 2 ^ s 0 * 2 := Nat.pow_succ 2 (s 0)
  have p := Nat.two_pow_pos (s 0)
  refine ⟨by rw [adS_0]; omega, by rw [adS_low (by omega) (by omega)]; exact h1, by rw [adS_low (by omega) (by omega)]; exact h2, by rw [adS_low (by omega) (by omega), adS_0]; omega, by rw [adS_low (by omega) (by omega), adS_0]; omega, by rw [adS_low (by omega) (by omega), adS_0]; omega, fun k hk => ?_⟩
  rw [adS_0] at hk
  by_cases c9 : k < s 0
  · obtain ⟨q1, q2, q3, q4, q5⟩ := h6 k c9
    rw [adS_0, adS_low (by omega) (by omega), adS_low (by omega) (by omega), adS_low (by omega) (by omega), adS_low (by omega) (by omega), adS_low (by omega) (by omega)]
    exact ⟨q1, q2, q3, by omega, by omega⟩
  · obtain rfl : k = s 0 := by omega
    have n0 := adS_new (s := s) (a := a) (b := b) (c := c) (w := 0) (by omega)
    have n1 := adS_new (s := s) (a := a) (b := b) (c := c) (w := 1) (by omega)
    have n2 := adS_new (s := s) (a := a) (b := b) (c := c) (w := 2) (by omega)
    have n3 := adS_new (s := s) (a := a) (b := b) (c := c) (w := 3) (by omega)
    have n4 := adS_new (s := s) (a := a) (b := b) (c := c) (w := 4) (by omega)
    simp only [Nat.add_zero] at n0
    rw [adS_0, n0, n1, n2, n3, n4]
    refine ⟨ha, hb, hc, ?_, ?_⟩ <;> simp <;> omega
theorem sp_addLast {s : Nat → Nat} (h : s 0 < 12) {items cap lim mus nev hand : Int32} {w g j b n : Nat → Int32} (hS : suP s items cap lim mus nev hand w g j b n) {x y z : Nat} {Q : Int32 → (Nat → Int32) → (Nat → Int32) → (Nat → Int32) → (Nat → Int32) → (Nat → Int32) → Prop}
    (hQ : ∀ items w g j b n, suP (adS s x y z) items cap lim mus nev hand w g j b n → Q items w g j b n) : wp_X8_addLast (iI (x : Nat)) (iI (y : Nat)) (iI (z : Nat)) items w g j b n Q := by
  obtain ⟨s0, s1, s2, s3, s4, s5, s6⟩ := hS
  subst s0
  unfold wp_X8_addLast
  have hi : vp_in (iI (s 0)) 12 := in_lit h (by omega)
  rw [iI_lit 12, iI_le (by omega) (by omega) (by omega) (by omega), iI_clN (by omega)]
  refine ⟨fun c => absurd c (by omega), fun _ => ⟨hi, hi, hi, hi, hi, hQ _ _ _ _ _ _ ?_⟩⟩
  refine ⟨by rw [adS_0, iI_succ], by rw [adS_low (by omega) (by omega)]; exact s1, by rw [adS_low (by omega) (by omega)]; exact s2, by rw [adS_low (by omega) (by omega)]; exact s3, by rw [adS_low (by omega) (by omega)]; exact s4, by rw [adS_low (by omega) (by omega)]; exact s5, fun k hk => ?_⟩
  rw [adS_0] at hk
  by_cases c9 : k < s 0
  · rw [pk_un (by omega), pk_un (by omega), pk_un (by omega), pk_un (by omega), pk_un (by omega), adS_low (by omega) (by omega), adS_low (by omega) (by omega), adS_low (by omega) (by omega), adS_low (by omega) (by omega), adS_low (by omega) (by omega)]
    exact s6 k c9
  · obtain rfl : k = s 0 := by omega
    have n0 := adS_new (s := s) (a := x) (b := y) (c := z) (w := 0) (by omega)
    have n1 := adS_new (s := s) (a := x) (b := y) (c := z) (w := 1) (by omega)
    have n2 := adS_new (s := s) (a := x) (b := y) (c := z) (w := 2) (by omega)
    have n3 := adS_new (s := s) (a := x) (b := y) (c := z) (w := 3) (by omega)
    have n4 := adS_new (s := s) (a := x) (b := y) (c := z) (w := 4) (by omega)
    simp only [Nat.add_zero] at n0
    rw [pk_us, pk_us, pk_us, pk_us, pk_us, n0, n1, n2, n3, n4]
    exact ⟨rfl, rfl, rfl, iI_lit 0, iI_lit 0⟩
theorem suP_cpy {s : Nat → Nat} (hW : WF s) {items cap lim mus nev hand : Int32} {w g j b n w2 g2 j2 b2 n2 : Nat → Int32} (hS : suP s items cap lim mus nev hand w g j b n) : suP s items cap lim mus nev hand (va_cpy w w2 0 0 12) (va_cpy g g2 0 0 12) (va_cpy j j2 0 0 12) (va_cpy b b2 0 0 12) (va_cpy n n2 0 0 12) := by
  obtain ⟨s0, s1, s2, s3, s4, s5, s6⟩ := hS
  have h := hW.1
  refine ⟨s0, s1, s2, s3, s4, s5, fun k hk => ?_⟩
  have e : ∀ f f2 : Nat → Int32, va_cpy f f2 0 0 12 k = f k := fun f f2 => by
    unfold va_cpy
    rw [if_pos (by omega)]
    congr 1
    omega
  rw [e, e, e, e, e]
  exact s6 k hk
theorem sp_copyFrom {s : Nat → Nat} (hW : WF s) {t1_items : Int32} {t1_capacity : Int32} {t1_limit : Int32} {t1_mustSet : Int32} {t1_neverSet : Int32} {t1_hand : Int32} {t_items : Int32} {t_capacity : Int32} {t_limit : Int32} {t_mustSet : Int32} {t_neverSet : Int32} {t_hand : Int32} {t1_weight : Nat → Int32} {t_weight : Nat → Int32} {t1_gain : Nat → Int32} {t_gain : Nat → Int32} {t1_joy : Nat → Int32} {t_joy : Nat → Int32} {t1_bars : Nat → Int32} {t_bars : Nat → Int32} {t1_needs : Nat → Int32} {t_needs : Nat → Int32} {Q : Int32 → Int32 → Int32 → Int32 → Int32 → Int32 → (Nat → Int32) → (Nat → Int32) → (Nat → Int32) → (Nat → Int32) → (Nat → Int32) → Prop} (hS : suP s t1_items t1_capacity t1_limit t1_mustSet t1_neverSet t1_hand t1_weight t1_gain t1_joy t1_bars t1_needs) (hQ : ∀ items cap lim mus nev hand w g j b n, suP s items cap lim mus nev hand w g j b n → Q items cap lim mus nev hand w g j b n) : wp_X8_copyFrom t1_items t1_capacity t1_limit t1_mustSet t1_neverSet t1_hand t_items t_capacity t_limit t_mustSet t_neverSet t_hand t1_weight t_weight t1_gain t_gain t1_joy t_joy t1_bars t_bars t1_needs t_needs Q := by
  unfold wp_X8_copyFrom
  exact hQ _ _ _ _ _ _ _ _ _ _ _ (suP_cpy hW hS)
/-- the item that stands at place j once item k is gone -/
def nx (k j : Nat) : Nat := if j < k then j else j + 1
