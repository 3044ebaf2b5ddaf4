/-! CLIMBING -/
def sv (s : Nat → Nat) (p q : Int) (set : Nat) : Int := p * (sm s 1 set (s 0) : Int) + q * (sm s 2 set (s 0) : Int)
theorem sv_rng {s : Nat → Nat} (hW : WF s) {p q : Int} (hp : 0 ≤ p ∧ p ≤ 99 ∧ 0 ≤ q ∧ q ≤ 99) (set : Nat) : 0 ≤ sv s p q set ∧ sv s p q set ≤ 235224 := by
  have h1 : sm s 1 set (s 0) ≤ 1188 := sm_bd hW (by omega) set
  have h2 : sm s 2 set (s 0) ≤ 1188 := sm_bd hW (by omega) set
  unfold sv
  generalize sm s 1 set (s 0) = a at h1 ⊢
  generalize sm s 2 set (s 0) = b at h2 ⊢
  have a1 : 0 ≤ p * (a : Int) := Int.mul_nonneg hp.1 (by omega)
  have a2 : 0 ≤ q * (b : Int) := Int.mul_nonneg hp.2.2.1 (by omega)
  have a3 : p * (a : Int) ≤ 99 * 1188 := Int.mul_le_mul hp.2.1 (by omega) (by omega) (by omega)
  have a4 : q * (b : Int) ≤ 99 * 1188 := Int.mul_le_mul hp.2.2.2 (by omega) (by omega) (by omega)
  omega
def bvv (s : Nat → Nat) (p q : Int) (b : Int) : Int := if b = -1 then -1 else sv s p q b.toNat
theorem bvv_n (s : Nat → Nat) (p q : Int) (n : Nat) : bvv s p q (n : Int) = sv s p q n := by
  unfold bvv
  rw [if_neg (by omega), Int.toNat_natCast]
theorem bvv_rng {s : Nat → Nat} (hW : WF s) {p q : Int} (hp : 0 ≤ p ∧ p ≤ 99 ∧ 0 ≤ q ∧ q ≤ 99) (b : Int) : -1 ≤ bvv s p q b ∧ bvv s p q b ≤ 235224 := by
  unfold bvv
  split
  · omega
  · have := sv_rng hW hp b.toNat; omega
def okb (s : Nat → Nat) (b : Int) : Prop := b = -1 ∨ ∃ k : Nat, k < 2 ^ s 0 ∧ b = (k : Int)
def kk (s : Nat → Nat) (p q : Int) (b : Int) (set : Nat) : Int := if rf s (s 1) set = 0 ∧ (bvv s p q b < sv s p q set ∨ (sv s p q set = bvv s p q b ∧ (set : Int) < b)) then (set : Int) else b
theorem kk_ok {s : Nat → Nat} {p q b : Int} {set : Nat} (hb : okb s b) (hs : set < 2 ^ s 0) : okb s (kk s p q b set) := by
  unfold kk
  split
  · exact Or.inr ⟨set, hs, rfl⟩
  · exact hb
theorem okb_rng {s : Nat → Nat} (hW : WF s) {b : Int} (hb : okb s b) : -1 ≤ b ∧ b < 4096 := by
  have := wf_pow hW
  rcases hb with h | ⟨k, h1, h2⟩ <;> omega
theorem iI_s1 (n : Nat) : iI (n : Nat) + 1 = iI ((n + 1 : Nat) : Int) := by
  rw [show (1 : Int32) = iI 1 from rfl, iI_add]
  rfl
theorem sp_X1v {s : Nat → Nat} {sets lim must nev : Int32} {weight gain joy barred needed : Nat → Int32} (hW : WF s) (hP : chP s sets lim must nev weight gain joy barred needed) {p q : Int} {set : Nat} (hs : set < 2 ^ s 0) {Q : Int32 → Prop} (hQ : Q (iI (sv s p q set))) : wp_X1_value (iI (set : Nat)) (iI p) (iI q) gain joy Q := by
  have hp := wf_pow hW
  unfold wp_X1_value
  refine ⟨in_lit (by omega) (by omega), in_lit (by omega) (by omega), ?_⟩
  rw [iI_clN (by omega), hP.2.2.2.2.2.1 set hs, hP.2.2.2.2.2.2.1 set hs, iI_mul, iI_mul, iI_add]
  exact hQ
theorem sp_lookAt1 {s : Nat → Nat} (hW : WF s) {p q : Int} (hpq : 0 ≤ p ∧ p ≤ 99 ∧ 0 ≤ q ∧ q ≤ 99) {sets : Int32} {t1_limit : Int32} {t1_mustSet : Int32} {t1_neverSet : Int32} {t1_weight : Nat → Int32} {t1_barred : Nat → Int32} {t1_needed : Nat → Int32} {t1_gain : Nat → Int32} {t1_joy : Nat → Int32} {Q : Int32 → Int32 → Prop} (hP : chP s sets t1_limit t1_mustSet t1_neverSet t1_weight t1_gain t1_joy t1_barred t1_needed) {b : Int} (hb : okb s b) {set : Nat} (hs : set < 2 ^ s 0) (hQ : Q (iI (kk s p q b set)) (iI (bvv s p q (kk s p q b set)))) :
    wp_X1_lookAt (iI (s 1)) (iI (set:Nat)) (iI p) (iI q) t1_limit t1_mustSet t1_neverSet t1_weight t1_barred t1_needed t1_gain t1_joy (iI b) (iI (bvv s p q b)) Q := by
  have hp := wf_pow hW
  have h1 := bvv_rng hW hpq b
  have h2 := sv_rng hW hpq set
  have h3 := okb_rng hW hb
  have hr := rf_le s (s 1) set
  unfold wp_X1_lookAt
  refine sp_reason hW hW.2.1 hs hP ?_
  rw [iI_z (by omega)]
  unfold kk at hQ
  by_cases c0 : rf s (s 1) set = 0
  · refine ⟨fun _ => sp_X1v hW hP hs ?_, fun z => absurd c0 z⟩
    rw [iI_lt (by omega) (by omega) (by omega) (by omega), iI_eq (by omega) (by omega) (by omega) (by omega), iI_le (by omega) (by omega) (by omega) (by omega)]
    refine ⟨fun c => ?_, fun c => ⟨fun c2 => ?_, fun c2 => ⟨fun c3 => ?_, fun c3 => ?_⟩⟩⟩
    · rw [if_pos ⟨c0, Or.inl c⟩, bvv_n] at hQ; exact hQ
    · rw [if_neg (by omega)] at hQ; exact hQ
    · rw [if_neg (by omega)] at hQ; exact hQ
    · rw [if_pos ⟨c0, Or.inr ⟨c2, by omega⟩⟩, bvv_n] at hQ; exact hQ
  · rw [if_neg (fun z => c0 z.1)] at hQ
    exact ⟨fun z => absurd z c0, fun _ => hQ⟩
theorem sp_valueBy {s : Nat → Nat} (hW : WF s) {row : Nat → Int32} (hN : neP s row) {p q : Int} {set : Nat} (hs : set < 2 ^ s 0) {Q : Int32 → Prop} (hQ : Q (iI (sv s p q set))) : wp_X11_valueBy (iI (set : Nat)) (iI p) (iI q) row Q := by
  have hp := wf_pow hW
  unfold wp_X11_valueBy
  rw [iI_lit 1, iI_lit 2]
  refine sp_sumOf (w := 1) hW hN (by omega) (by omega) (sp_sumOf (w := 2) hW hN (by omega) (by omega) ?_)
  rw [iI_mul, iI_mul, iI_add]
  exact hQ
theorem sp_lookAt2 {s : Nat → Nat} (hW : WF s) {p q : Int} (hpq : 0 ≤ p ∧ p ≤ 99 ∧ 0 ≤ q ∧ q ≤ 99) {row : Nat → Int32} (hN : neP s row) {b : Int} (hb : okb s b) {set : Nat} (hs : set < 2 ^ s 0) {Q : Int32 → Prop} (hQ : Q (iI (kk s p q b set))) : wp_X11_lookAt (iI (set : Nat)) (iI p) (iI q) (iI b) row Q := by
  have hp := wf_pow hW
  have h1 := bvv_rng hW hpq b
  have h2 := sv_rng hW hpq set
  have h3 := okb_rng hW hb
  unfold wp_X11_lookAt
  refine sp_isAllowed hW hN hs ?_
  unfold kk at hQ
  by_cases c0 : rf s (s 1) set = 0
  · rw [if_pos c0]
    refine ⟨fun _ => ?_, fun z => absurd z (by decide)⟩
    rw [show (-1 : Int32) = iI (-1) from rfl, iI_eq (by omega) (by omega) (by omega) (by omega)]
    rcases hb with hb | ⟨k, hk, hb⟩
    · subst hb
      refine ⟨fun z => absurd rfl z, fun _ => ?_⟩
      rw [if_pos ⟨c0, Or.inl (by unfold bvv; rw [if_pos rfl]; omega)⟩] at hQ
      exact hQ
    · subst hb
      rw [bvv_n] at hQ
      have h4 := sv_rng hW hpq k
      refine ⟨fun _ => sp_valueBy hW hN hs (sp_valueBy hW hN hk fun v hv => ?_), fun z => by omega⟩
      subst hv
      rw [iI_sub, iI_lit 0, iI_lt (by omega) (by omega) (by omega) (by omega), iI_eq (by omega) (by omega) (by omega) (by omega), iI_le (by omega) (by omega) (by omega) (by omega)]
      refine ⟨fun c => ?_, fun c => ⟨fun c2 => ?_, fun c2 => ⟨fun c3 => ?_, fun c3 => ?_⟩⟩⟩
      · rw [if_pos ⟨c0, Or.inl (by omega)⟩] at hQ; exact hQ
      · rw [if_neg (by omega)] at hQ; exact hQ
      · rw [if_neg (by omega)] at hQ; exact hQ
      · rw [if_pos ⟨c0, Or.inr ⟨by omega, by omega⟩⟩] at hQ; exact hQ
  · rw [if_neg c0]
    rw [if_neg (fun z => c0 z.1)] at hQ
    exact ⟨fun z => absurd rfl z, fun _ => hQ⟩
/-- the best of what stands around a, among the swaps of item i with an item below j -/
def la2 (s : Nat → Nat) (p q : Int) (a i : Nat) (b : Int) : Nat → Int
  | 0 => b
  | j + 1 => if a.testBit i = a.testBit j then la2 s p q a i b j else kk s p q (la2 s p q a i b j) (a ^^^ 2 ^ i ^^^ 2 ^ j)
def la1 (s : Nat → Nat) (p q : Int) (a : Nat) : Nat → Int
  | 0 => -1
  | i + 1 => la2 s p q a i (kk s p q (la1 s p q a i) (a ^^^ 2 ^ i)) i
abbrev NX (s : Nat → Nat) (p q : Int) (a : Nat) : Int := la1 s p q a (s 0)
theorem xr_lt {a i n : Nat} (ha : a < 2 ^ n) (hi : i < n) : a ^^^ 2 ^ i < 2 ^ n := Nat.xor_lt_two_pow ha (Nat.pow_lt_pow_right (by omega) hi)
theorem la2_ok {s : Nat → Nat} {p q : Int} {a i : Nat} (ha : a < 2 ^ s 0) (hi : i < s 0) {b : Int} (hb : okb s b) : ∀ {j}, j ≤ i → okb s (la2 s p q a i b j)
  | 0, _ => hb
  | j + 1, h => by
    have := la2_ok ha hi hb (p := p) (q := q) (j := j) (by omega)
    simp only [la2]
    split
    · exact this
    · exact kk_ok this (xr_lt (xr_lt ha hi) (by omega))
theorem la1_ok {s : Nat → Nat} {p q : Int} {a : Nat} (ha : a < 2 ^ s 0) : ∀ {i}, i ≤ s 0 → okb s (la1 s p q a i)
  | 0, _ => Or.inl rfl
  | i + 1, h => by
    have := la1_ok ha (p := p) (q := q) (i := i) (by omega)
    simp only [la1]
    exact la2_ok ha (by omega) (kk_ok this (xr_lt ha (by omega))) (Nat.le_refl _)
theorem bit_eq {a i j : Nat} : ((if a.testBit i = true then (1 : Int32) else 0) = (if a.testBit j = true then 1 else 0)) ↔ a.testBit i = a.testBit j := by
  cases a.testBit i <;> cases a.testBit j <;> decide
theorem sl_look50 {s : Nat → Nat} (hW : WF s) {p q : Int} (hpq : 0 ≤ p ∧ p ≤ 99 ∧ 0 ≤ q ∧ q ≤ 99) {sets : Int32} {t1_limit : Int32} {t1_mustSet : Int32} {t1_neverSet : Int32} {t1_weight : Nat → Int32} {t1_barred : Nat → Int32} {t1_needed : Nat → Int32} {t1_gain : Nat → Int32} {t1_joy : Nat → Int32} {k103 : Int32 → Int32 → Prop} {Q : Int32 → Int32 → Prop} (hP : chP s sets t1_limit t1_mustSet t1_neverSet t1_weight t1_gain t1_joy t1_barred t1_needed) {a i : Nat} (ha : a < 2 ^ s 0) (hi : i < s 0) {b : Int} (hb : okb s b) (hQ : k103 (iI (la2 s p q a i b i)) (iI (bvv s p q (la2 s p q a i b i)))) :
    ∀ (d j : Nat), j + d = i → wp_X1_lookAround_L50 (iI (a:Nat)) (iI (s 0)) (iI (s 1)) t1_limit t1_mustSet t1_neverSet t1_weight t1_barred t1_needed t1_gain t1_joy (iI p) (iI q) (iI (i:Nat)) (iI ((a ^^^ 2^i:Nat):Int)) k103 Q (d + 1) (iI (j : Nat)) (iI (la2 s p q a i b j)) (iI (bvv s p q (la2 s p q a i b j))) := by
  have hp := wf_pow hW
  have h12 := hW.1
  intro d
  induction d with
  | zero =>
    intro j hj
    obtain rfl : j = i := by omega
    unfold wp_X1_lookAround_L50
    exact ⟨fun _ => hQ, fun z => absurd (Int32.le_refl _) z⟩
  | succ d ih =>
    intro j hj
    have ok := la2_ok (p := p) (q := q) ha hi hb (j := j) (by omega)
    have ih2 := ih (j + 1) (by omega)
    unfold wp_X1_lookAround_L50
    rw [iI_le (by omega) (by omega) (by omega) (by omega)]
    refine ⟨fun z => by omega, fun _ => sp_hasBit (by omega) (by omega) (sp_hasBit (by omega) (by omega) ?_)⟩
    rw [bit_eq, iI_shl1 j (by omega), iI_xor, iI_s1 j]
    simp only [la2] at ih2
    refine ⟨fun c => ?_, fun c => sp_lookAt1 hW hpq hP ok (xr_lt (xr_lt ha hi) (by omega)) ?_⟩
    · rw [if_pos c] at ih2; exact ih2
    · rw [if_neg c] at ih2; exact ih2
theorem sl_look13 {s : Nat → Nat} (hW : WF s) {p q : Int} (hpq : 0 ≤ p ∧ p ≤ 99 ∧ 0 ≤ q ∧ q ≤ 99) {sets : Int32} {t1_limit : Int32} {t1_mustSet : Int32} {t1_neverSet : Int32} {t1_weight : Nat → Int32} {t1_barred : Nat → Int32} {t1_needed : Nat → Int32} {t1_gain : Nat → Int32} {t1_joy : Nat → Int32} {Q : Int32 → Int32 → Prop} (hP : chP s sets t1_limit t1_mustSet t1_neverSet t1_weight t1_gain t1_joy t1_barred t1_needed) {a : Nat} (ha : a < 2 ^ s 0) (hQ : Q (iI (NX s p q a)) (iI (bvv s p q (NX s p q a)))) :
    ∀ (d i : Nat), i + d = s 0 → wp_X1_lookAround_L13 (iI (a:Nat)) (iI (s 0)) (iI (s 1)) t1_limit t1_mustSet t1_neverSet t1_weight t1_barred t1_needed t1_gain t1_joy (iI p) (iI q) Q (d + 1) (iI (i : Nat)) (iI (la1 s p q a i)) (iI (bvv s p q (la1 s p q a i))) := by
  have hp := wf_pow hW
  have h12 := hW.1
  intro d
  induction d with
  | zero =>
    intro i hi
    obtain rfl : i = s 0 := by omega
    unfold wp_X1_lookAround_L13
    exact ⟨fun _ => hQ, fun z => absurd (Int32.le_refl _) z⟩
  | succ d ih =>
    intro i hi
    have ok := la1_ok (p := p) (q := q) ha (i := i) (by omega)
    have ih2 := ih (i + 1) (by omega)
    unfold wp_X1_lookAround_L13
    rw [iI_le (by omega) (by omega) (by omega) (by omega)]
    refine ⟨fun z => by omega, fun _ v hv => ?_⟩
    rw [iI_shl1 i (by omega), iI_xor] at hv
    subst hv
    refine sp_lookAt1 hW hpq hP ok (xr_lt ha (by omega)) ⟨i + 1, ?_⟩
    refine sl_look50 hW hpq hP ha (by omega) (kk_ok ok (xr_lt ha (by omega))) ?_ i 0 (by omega)
    rw [iI_s1 i]
    exact ih2
theorem sp_lookAround {s : Nat → Nat} (hW : WF s) {p q : Int} (hpq : 0 ≤ p ∧ p ≤ 99 ∧ 0 ≤ q ∧ q ≤ 99) {sets : Int32} {t_bestSet : Int32} {t_bestValue : Int32} {t1_limit : Int32} {t1_mustSet : Int32} {t1_neverSet : Int32} {t1_weight : Nat → Int32} {t1_barred : Nat → Int32} {t1_needed : Nat → Int32} {t1_gain : Nat → Int32} {t1_joy : Nat → Int32} {Q : Int32 → Int32 → Prop} (hP : chP s sets t1_limit t1_mustSet t1_neverSet t1_weight t1_gain t1_joy t1_barred t1_needed) {a : Nat} (ha : a < 2 ^ s 0) (hQ : Q (iI (NX s p q a)) (iI (bvv s p q (NX s p q a)))) : wp_X1_lookAround (iI p) (iI q) (iI (a:Nat)) t_bestSet t_bestValue (iI (s 0)) (iI (s 1)) t1_limit t1_mustSet t1_neverSet t1_weight t1_barred t1_needed t1_gain t1_joy Q := by
  unfold wp_X1_lookAround
  exact ⟨s 0 + 1, sl_look13 hW hpq hP ha hQ (s 0) 0 (by omega)⟩
theorem sl_next32 {s : Nat → Nat} (hW : WF s) {p q : Int} (hpq : 0 ≤ p ∧ p ≤ 99 ∧ 0 ≤ q ∧ q ≤ 99) {t_row : Nat → Int32} {k77 : Int32 → Prop} {Q : Int32 → Int32 → Prop} (hN : neP s t_row) {a i : Nat} (ha : a < 2 ^ s 0) (hi : i < s 0) {b : Int} (hb : okb s b) (hQ : k77 (iI (la2 s p q a i b i))) :
    ∀ (d j : Nat), j + d = i → wp_X11_nextFrom_L32 t_row (iI (a:Nat)) (iI p) (iI q) (iI (i:Nat)) k77 Q (d + 1) (iI (j : Nat)) (iI (la2 s p q a i b j)) := by
  have hp := wf_pow hW
  have h12 := hW.1
  intro d
  induction d with
  | zero =>
    intro j hj
    obtain rfl : j = i := by omega
    unfold wp_X11_nextFrom_L32
    exact ⟨fun _ => hQ, fun z => absurd (Int32.le_refl _) z⟩
  | succ d ih =>
    intro j hj
    have ok := la2_ok (p := p) (q := q) ha hi hb (j := j) (by omega)
    have ih2 := ih (j + 1) (by omega)
    unfold wp_X11_nextFrom_L32
    rw [iI_le (by omega) (by omega) (by omega) (by omega)]
    refine ⟨fun z => by omega, fun _ => sp_has (by omega) (by omega) (sp_has (by omega) (by omega) ?_)⟩
    rw [bit_eq, iI_shl1 j (by omega), iI_shl1 i (by omega), iI_xor, iI_xor, iI_s1 j]
    simp only [la2] at ih2
    refine ⟨fun c => ?_, fun c => sp_lookAt2 hW hpq hN ok (xr_lt (xr_lt ha hi) (by omega)) ?_⟩
    · rw [if_pos c] at ih2; exact ih2
    · rw [if_neg c] at ih2; exact ih2
theorem sl_next8 {s : Nat → Nat} (hW : WF s) {p q : Int} (hpq : 0 ≤ p ∧ p ≤ 99 ∧ 0 ≤ q ∧ q ≤ 99) {t_row : Nat → Int32} {Q : Int32 → Int32 → Prop} (hN : neP s t_row) {a : Nat} (ha : a < 2 ^ s 0) (hQ : Q (iI (NX s p q a)) (iI (NX s p q a))) :
    ∀ (d i : Nat), i + d = s 0 → wp_X11_nextFrom_L8 t_row (iI (a:Nat)) (iI p) (iI q) Q (d + 1) (iI (i : Nat)) (iI (la1 s p q a i)) := by
  have hp := wf_pow hW
  have h12 := hW.1
  intro d
  induction d with
  | zero =>
    intro i hi
    obtain rfl : i = s 0 := by omega
    unfold wp_X11_nextFrom_L8
    exact sp_many hN ⟨fun _ => hQ, fun z => absurd (Int32.le_refl _) z⟩
  | succ d ih =>
    intro i hi
    have ok := la1_ok (p := p) (q := q) ha (i := i) (by omega)
    have ih2 := ih (i + 1) (by omega)
    unfold wp_X11_nextFrom_L8
    refine sp_many hN ?_
    rw [iI_le (by omega) (by omega) (by omega) (by omega)]
    refine ⟨fun z => by omega, fun _ => ?_⟩
    rw [iI_shl1 i (by omega), iI_xor]
    refine sp_lookAt2 hW hpq hN ok (xr_lt ha (by omega)) ⟨i + 1, ?_⟩
    refine sl_next32 hW hpq hN ha (by omega) (kk_ok ok (xr_lt ha (by omega))) ?_ i 0 (by omega)
    rw [iI_s1 i]
    exact ih2
theorem sp_nextFrom {s : Nat → Nat} (hW : WF s) {p q : Int} (hpq : 0 ≤ p ∧ p ≤ 99 ∧ 0 ≤ q ∧ q ≤ 99) {t_ahead : Int32} {t_row : Nat → Int32} {Q : Int32 → Int32 → Prop} (hN : neP s t_row) {a : Nat} (ha : a < 2 ^ s 0) (hQ : Q (iI (NX s p q a)) (iI (NX s p q a))) : wp_X11_nextFrom (iI (a:Nat)) (iI p) (iI q) t_ahead t_row Q := by
  unfold wp_X11_nextFrom
  exact ⟨s 0 + 1, sl_next8 hW hpq hN ha hQ (s 0) 0 (by omega)⟩
/-- the climb: at most f steps more -/
def clm (s : Nat → Nat) (p q : Int) : Nat → Nat → Nat → Nat × Nat
  | 0, a, n => (a, n)
  | f + 1, a, n => if sv s p q a < bvv s p q (NX s p q a) then clm s p q f (NX s p q a).toNat (n + 1) else (a, n)
abbrev CLM (s : Nat → Nat) (p q : Int) : Nat × Nat := clm s p q 4096 (s 5) 0
theorem nx_up {s : Nat → Nat} (hW : WF s) {p q : Int} (hpq : 0 ≤ p ∧ p ≤ 99 ∧ 0 ≤ q ∧ q ≤ 99) {a : Nat} (ha : a < 2 ^ s 0) (h : sv s p q a < bvv s p q (NX s p q a)) : ∃ k : Nat, k < 2 ^ s 0 ∧ NX s p q a = (k : Int) ∧ sv s p q a < sv s p q k := by
  have h2 := sv_rng hW hpq a
  rcases la1_ok (p := p) (q := q) ha (Nat.le_refl (s 0)) with e | ⟨k, hk, e⟩
  · rw [show NX s p q a = -1 from e] at h
    unfold bvv at h
    rw [if_pos rfl] at h
    omega
  · refine ⟨k, hk, e, ?_⟩
    rw [show NX s p q a = (k : Int) from e, bvv_n] at h
    exact h
theorem clm_lt {s : Nat → Nat} (hW : WF s) {p q : Int} (hpq : 0 ≤ p ∧ p ≤ 99 ∧ 0 ≤ q ∧ q ≤ 99) : ∀ {f a n : Nat}, a < 2 ^ s 0 → (clm s p q f a n).1 < 2 ^ s 0 ∧ (clm s p q f a n).2 ≤ n + f
  | 0, a, n, ha => ⟨ha, Nat.le_refl _⟩
  | f + 1, a, n, ha => by
    simp only [clm]
    split
    · rename_i c
      obtain ⟨k, hk, e, -⟩ := nx_up hW hpq ha c
      rw [e, Int.toNat_natCast]
      have := clm_lt hW hpq (f := f) (a := k) (n := n + 1) hk
      omega
    · exact ⟨ha, by omega⟩
theorem sl_climb {s : Nat → Nat} (hW : WF s) {p q : Int} (hpq : 0 ≤ p ∧ p ≤ 99 ∧ 0 ≤ q ∧ q ≤ 99) {sets : Int32} {t2_hand : Int32} {t1_limit : Int32} {t1_mustSet : Int32} {t1_neverSet : Int32} {t1_weight : Nat → Int32} {t1_barred : Nat → Int32} {t1_needed : Nat → Int32} {t1_gain : Nat → Int32} {t1_joy : Nat → Int32} {Q : Int32 → Int32 → Int32 → Int32 → Prop} (hP : chP s sets t1_limit t1_mustSet t1_neverSet t1_weight t1_gain t1_joy t1_barred t1_needed) {r : Nat × Nat} (hQ : ∀ bs bv, Q (iI (r.1 : Nat)) (iI (r.2 : Nat)) bs bv) :
    ∀ (f a n : Nat) (bs bv : Int32), a < 2 ^ s 0 → n + f = 4096 → clm s p q f a n = r → wp_X1_run_L16 (iI (s 0)) (iI (s 1)) t2_hand t1_limit t1_mustSet t1_neverSet t1_weight t1_barred t1_needed t1_gain t1_joy (iI p) (iI q) Q (f + 1) (iI (n : Nat)) (iI (a : Nat)) (iI (n : Nat)) bs bv := by
  have hp := wf_pow hW
  intro f
  induction f with
  | zero =>
    intro a n bs bv ha hn hr
    obtain rfl : n = 4096 := by omega
    unfold wp_X1_run_L16
    subst hr
    refine ⟨fun _ => hQ bs bv, fun z => absurd (by decide) z⟩
  | succ f ih =>
    intro a n bs bv ha hn hr
    unfold wp_X1_run_L16
    rw [iI_lit 4096, iI_le (by omega) (by omega) (by omega) (by omega)]
    refine ⟨fun z => by omega, fun _ => sp_lookAround hW hpq hP ha (sp_X1v hW hP ha ?_)⟩
    have h1 := bvv_rng hW hpq (NX s p q a)
    have h2 := sv_rng hW hpq a
    rw [iI_lt (by omega) (by omega) (by omega) (by omega), iI_s1 n]
    simp only [clm] at hr
    refine ⟨fun c => ?_, fun c => ?_⟩
    · rw [if_pos c] at hr
      obtain ⟨k, hk, e, -⟩ := nx_up hW hpq ha c
      rw [e] at hr ⊢
      exact ih k (n + 1) _ _ hk (by omega) hr
    · rw [if_neg c] at hr
      subst hr
      exact hQ _ _
def muv (s : Nat → Nat) (p q : Int) (a : Nat) : Nat := fb_ct (fun k => decide (sv s p q a < sv s p q k)) (2 ^ s 0)
theorem muv_lt {s : Nat → Nat} {p q : Int} {a k : Nat} (hk : k < 2 ^ s 0) (h : sv s p q a < sv s p q k) : muv s p q k < muv s p q a := by
  have h1 := fb_ct_upd (fun x => decide (sv s p q k < sv s p q x)) true hk
  have h2 : fb_ct (fun x => if x = k then true else decide (sv s p q k < sv s p q x)) (2 ^ s 0) ≤ muv s p q a := by
    refine fb_ct_sub fun x _ hx => ?_
    by_cases e : x = k
    · subst e; exact decide_eq_true h
    · rw [if_neg e] at hx
      have := of_decide_eq_true hx
      exact decide_eq_true (by omega)
  have h3 : decide (sv s p q k < sv s p q k) = false := decide_eq_false (by omega)
  rw [h3] at h1
  unfold muv at h2 ⊢
  simp only [Bool.false_eq_true, if_false, if_true] at h1
  omega
theorem sl_climbed {s : Nat → Nat} (hW : WF s) {p q : Int} (hpq : 0 ≤ p ∧ p ≤ 99 ∧ 0 ≤ q ∧ q ≤ 99) {t_row : Nat → Int32} {Q : Int32 → Int32 → Int32 → Prop} (hN : neP s t_row) {r : Nat × Nat} (hQ : ∀ ah, Q (iI (r.1 : Nat)) (iI (r.2 : Nat)) ah) :
    ∀ (f a n : Nat) (ah : Int32), a < 2 ^ s 0 → n + f ≤ 4096 → muv s p q a ≤ f → clm s p q f a n = r → wp_X11_climbed_L12 t_row (iI p) (iI q) Q (f + 1) (iI (a : Nat)) (iI (n : Nat)) ah := by
  have hp := wf_pow hW
  intro f
  induction f with
  | zero =>
    intro a n ah ha hn hm hr
    unfold wp_X11_climbed_L12
    refine sp_nextFrom hW hpq hN ha ?_
    have h2 := sv_rng hW hpq a
    have h3 : -1 ≤ NX s p q a ∧ NX s p q a < 4096 := okb_rng hW (la1_ok (p := p) (q := q) ha (Nat.le_refl (s 0)))
    rw [show (-1 : Int32) = iI (-1) from rfl, iI_eq (by omega) (by omega) (by omega) (by omega)]
    subst hr
    refine ⟨fun _ => hQ _, fun c => ?_⟩
    rcases la1_ok (p := p) (q := q) ha (Nat.le_refl (s 0)) with e | ⟨k, hk, e⟩
    · exact absurd e c
    · rw [show NX s p q a = (k : Int) from e]
      refine sp_valueBy hW hN hk (sp_valueBy hW hN ha ?_)
      have h4 := sv_rng hW hpq k
      rw [iI_lt (by omega) (by omega) (by omega) (by omega)]
      refine ⟨fun z => ?_, fun _ => hQ _⟩
      have := muv_lt hk z
      omega
  | succ f ih =>
    intro a n ah ha hn hm hr
    unfold wp_X11_climbed_L12
    refine sp_nextFrom hW hpq hN ha ?_
    have h2 := sv_rng hW hpq a
    have h3 : -1 ≤ NX s p q a ∧ NX s p q a < 4096 := okb_rng hW (la1_ok (p := p) (q := q) ha (Nat.le_refl (s 0)))
    rw [show (-1 : Int32) = iI (-1) from rfl, iI_eq (by omega) (by omega) (by omega) (by omega), iI_s1 n]
    simp only [clm] at hr
    rcases la1_ok (p := p) (q := q) ha (Nat.le_refl (s 0)) with e | ⟨k, hk, e⟩
    · refine ⟨fun _ => ?_, fun z => absurd e z⟩
      rw [if_neg (by rw [show NX s p q a = -1 from e]; unfold bvv; rw [if_pos rfl]; omega)] at hr
      subst hr
      exact hQ _
    · rw [show NX s p q a = (k : Int) from e]
      rw [show NX s p q a = (k : Int) from e, bvv_n, Int.toNat_natCast] at hr
      refine ⟨fun z => by omega, fun _ => sp_valueBy hW hN hk (sp_valueBy hW hN ha ?_)⟩
      have h4 := sv_rng hW hpq k
      rw [iI_lt (by omega) (by omega) (by omega) (by omega)]
      refine ⟨fun z => ?_, fun z => ?_⟩
      · rw [if_pos z] at hr
        have := muv_lt hk z
        exact ih k (n + 1) _ hk (by omega) (by omega) hr
      · rw [if_neg z] at hr
        subst hr
        exact hQ _
theorem sq_improve {s : Nat → Nat} (hW : WF s) {ps : List (Nat → Nat)} (hl : ps.length ≤ 8) {p1 : Int32} {p2 : Int32} {t_frontierFresh : Int32} {t_now_items : Int32} {t_now_capacity : Int32} {t_now_limit : Int32} {t_now_mustSet : Int32} {t_now_neverSet : Int32} {t_now_hand : Int32} {t_choices_sets : Int32} {t_choices_limit : Int32} {t_choices_mustSet : Int32} {t_choices_neverSet : Int32} {t_choices_weight : Nat → Int32} {t_now_weight : Nat → Int32} {t_choices_gain : Nat → Int32} {t_now_gain : Nat → Int32} {t_choices_joy : Nat → Int32} {t_now_joy : Nat → Int32} {t_choices_barred : Nat → Int32} {t_now_bars : Nat → Int32} {t_choices_needed : Nat → Int32} {t_now_needs : Nat → Int32} {t_stairs_allowedCount : Int32} {t_stairs_joyAt : Nat → Int32} {t_frontier_size : Int32} {t_frontier_vertexCount : Int32} {t_frontier_allowedCount : Int32} {t_frontier_areaBelow : Int32} {t_frontier_pointAt : Nat → Int32} {t_frontier_gain : Nat → Int32} {t_frontier_joy : Nat → Int32} {t_frontier_choice : Nat → Int32} {t_frontier_times : Nat → Int32} {t_frontier_light : Nat → Int32} {t_frontier_mark : Nat → Int32} {t_frontier_vertexPoint : Nat → Int32} {t_climber_at : Int32} {t_climber_steps : Int32} {t_climber_bestSet : Int32} {t_climber_bestValue : Int32} {t_past_count : Int32} {t_past_setups_pq : Nat → Nat → Nat} {t_past_setups_pi : Nat → Nat → Int32} {t_past_setups_pr : Nat → Nat → Nat → Int32} {Q : Int32 → Int32 → Int32 → Int32 → Int32 → Int32 → Int32 → (Nat → Int32) → (Nat → Int32) → (Nat → Int32) → (Nat → Int32) → (Nat → Int32) → Int32 → (Nat → Int32) → Int32 → Int32 → Int32 → Int32 → (Nat → Int32) → (Nat → Int32) → (Nat → Int32) → (Nat → Int32) → (Nat → Int32) → (Nat → Int32) → (Nat → Int32) → (Nat → Int32) → Int32 → Int32 → Int32 → Int32 → Int32 → (Nat → Nat → Nat) → (Nat → Nat → Int32) → (Nat → Nat → Nat → Int32) → Prop} {QX : String → Int32 → Int32 → Int32 → Int32 → Int32 → Int32 → (Nat → Int32) → (Nat → Int32) → (Nat → Int32) → (Nat → Int32) → (Nat → Int32) → Int32 → (Nat → Int32) → Int32 → Int32 → Int32 → Int32 → (Nat → Int32) → (Nat → Int32) → (Nat → Int32) → (Nat → Int32) → (Nat → Int32) → (Nat → Int32) → (Nat → Int32) → (Nat → Int32) → Int32 → Int32 → Int32 → Int32 → Int32 → (Nat → Nat → Nat) → (Nat → Nat → Int32) → (Nat → Nat → Nat → Int32) → Prop} (hP : paP ps t_past_count t_past_setups_pi t_past_setups_pr) (hS : suP s t_now_items t_now_capacity t_now_limit t_now_mustSet t_now_neverSet t_now_hand t_now_weight t_now_gain t_now_joy t_now_bars t_now_needs) (hD : dkP s t_frontierFresh t_choices_sets t_choices_limit t_choices_mustSet t_choices_neverSet t_choices_weight t_choices_gain t_choices_joy t_choices_barred t_choices_needed t_frontier_size t_frontier_vertexCount t_frontier_allowedCount t_frontier_areaBelow t_frontier_pointAt t_frontier_gain t_frontier_joy t_frontier_choice t_frontier_times t_frontier_light t_frontier_mark t_frontier_vertexPoint) (hQ : wgt p1 p2 → DQ (su s 5 (CLM s p1.toInt p2.toInt).1) (fun ff sets lim must nev cw cg cj cb cn sac sja size vc ac area pa g j ch ti li mk vp => ∀ at_ st bs bv count pq pi pr, paP (pshL ps s) count pi pr → Q (iI ((CLM s p1.toInt p2.toInt).2 : Nat)) ff (iI ((CLM s p1.toInt p2.toInt).1 : Nat)) sets lim must nev cw cg cj cb cn sac sja size vc ac area pa g j ch ti li mk vp at_ st bs bv count pq pi pr))
    (hX : ¬ wgt p1 p2 → DQ s (fun ff sets lim must nev cw cg cj cb cn sac sja size vc ac area pa g j ch ti li mk vp => QX "java/lang/IllegalArgumentException" ff t_now_hand sets lim must nev cw cg cj cb cn sac sja size vc ac area pa g j ch ti li mk vp t_climber_at t_climber_steps t_climber_bestSet t_climber_bestValue t_past_count t_past_setups_pq t_past_setups_pi t_past_setups_pr)) : wp_X10_improve p1 p2 t_frontierFresh t_now_items t_now_capacity t_now_limit t_now_mustSet t_now_neverSet t_now_hand t_choices_sets t_choices_limit t_choices_mustSet t_choices_neverSet t_choices_weight t_now_weight t_choices_gain t_now_gain t_choices_joy t_now_joy t_choices_barred t_now_bars t_choices_needed t_now_needs t_stairs_allowedCount t_stairs_joyAt t_frontier_size t_frontier_vertexCount t_frontier_allowedCount t_frontier_areaBelow t_frontier_pointAt t_frontier_gain t_frontier_joy t_frontier_choice t_frontier_times t_frontier_light t_frontier_mark t_frontier_vertexPoint t_climber_at t_climber_steps t_climber_bestSet t_climber_bestValue t_past_count t_past_setups_pq t_past_setups_pi t_past_setups_pr Q QX := by
  have h5 := hW.2.2.2.2.2.1
  unfold wp_X10_improve
  refine sp_reqW (fun h => sp_refresh hW hS hD fun sets lim must nev cw cg cj cb cn sac sja size vc ac area pa g j ch ti li mk vp hC hF => ?_) (fun h => hX h _ _ _ _ _ _ _ _ _ _ _ _ _ _ _ _ _ _ _ _ _ _ _ _ hD)
  have ans := hQ h 1 sets lim must nev cw cg cj cb cn sac sja size vc ac area pa g j ch ti li mk vp (dkP_su5 (dkP_1 hC hF))
  have hpq : 0 ≤ p1.toInt ∧ p1.toInt ≤ 99 ∧ 0 ≤ p2.toInt ∧ p2.toInt ≤ 99 := ⟨h.1, h.2.1, h.2.2.1, h.2.2.2.1⟩
  unfold wp_X1_run
  refine ⟨4097, ?_⟩
  have key := fun {Q : Int32 → Int32 → Int32 → Int32 → Prop} (hQ : ∀ bs bv, Q (iI ((CLM s p1.toInt p2.toInt).1 : Nat)) (iI ((CLM s p1.toInt p2.toInt).2 : Nat)) bs bv) => sl_climb hW hpq (t2_hand := t_now_hand) hC hQ 4096 (s 5) 0 t_climber_bestSet t_climber_bestValue h5 (by omega) rfl
  rw [← iI_of, ← iI_of] at key
  have eh := hS.2.2.2.2.2.1
  have ei := hS.1
  have ec := hS.2.1
  subst eh
  subst ei
  subst ec
  exact key fun bs bv => sp_takeInHand hW hl hP hS fun count pq pi pr hp => ans _ _ _ _ count pq pi pr hp
theorem sr_improve {s : Nat → Nat} (hW : WF s) {ps : List (Nat → Nat)} (hl : ps.length ≤ 8) (hw : ∀ t ∈ ps, WF t) {p1 : Int32} {p2 : Int32} {t_thrown : Int32} {t_climbSteps : Int32} {t_ahead : Int32} {t_remembered : Int32} {t_net : Nat → Int32} {t_past : Nat → Int32} {Q : Int32 → Int32 → Int32 → Int32 → Int32 → (Nat → Int32) → (Nat → Int32) → Prop} (hP : prP ps t_remembered t_past) (hN : neP s t_net) (hQ : wgt p1 p2 → ∀ cs ah rem net past, prP (pshL ps s) rem past → neP (su s 5 (CLM s p1.toInt p2.toInt).1) net → Q (iI ((CLM s p1.toInt p2.toInt).2 : Nat)) 0 cs ah rem net past)
    (hX : ¬ wgt p1 p2 → Q 0 1 t_climbSteps t_ahead t_remembered t_net t_past) : wp_X11_improve p1 p2 t_thrown t_climbSteps t_ahead t_remembered t_net t_past Q := by
  have h5 := hW.2.2.2.2.2.1
  have hp0 := wf_pow hW
  have e5 : (5 : Int32).toNatClampNeg = 5 := by decide
  have i5 : vp_in 5 66 := by rw [vp_in_iff]; decide
  unfold wp_X11_improve
  refine sp_areW (sp_passes ?_)
  by_cases h : wgt p1 p2
  · rw [if_pos h]
    refine ⟨fun _ => ?_, fun z => absurd z (by decide)⟩
    have hpq : 0 ≤ p1.toInt ∧ p1.toInt ≤ 99 ∧ 0 ≤ p2.toInt ∧ p2.toInt ≤ 99 := ⟨h.1, h.2.1, h.2.2.1, h.2.2.2.1⟩
    unfold wp_X11_climbed
    refine ⟨i5, fun v hv => ⟨4097, ?_⟩⟩
    rw [e5, hN.1 5 (by omega)] at hv
    subst hv
    have hmu : muv s p1.toInt p2.toInt (s 5) ≤ 4096 := Nat.le_trans (fb_ct_le _ _) (by omega)
    have key := fun {Q : Int32 → Int32 → Int32 → Prop} (hQ : ∀ ah, Q (iI ((CLM s p1.toInt p2.toInt).1 : Nat)) (iI ((CLM s p1.toInt p2.toInt).2 : Nat)) ah) => sl_climbed hW hpq hN hQ 4096 (s 5) 0 t_ahead h5 (by omega) hmu rfl
    rw [← iI_of, ← iI_of] at key
    have hlt := clm_lt hW hpq (f := 4096) (n := 0) h5
    refine key fun ah => sr_remember hW hl hw hP hN fun rem past hp => ⟨i5, ?_⟩
    rw [e5]
    exact hQ h _ ah rem _ past hp (neP_su hN (by omega) (by omega) rfl)
  · rw [if_neg h]
    exact ⟨fun z => absurd rfl z, fun _ => hX h⟩
