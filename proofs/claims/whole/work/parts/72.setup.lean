/-! CHANGES OF A SETUP: an item more, an item less, a bit turned, a copy -/
theorem iI_shl {n k : Nat} (hn : n < 65536) (hk : k < 13) : iI n <<< (iI (k : Nat) &&& 31) = iI ((n * 2 ^ k : Nat) : Int) := by
  rw [← iI_nI, ← iI_nI (n * 2 ^ k)]
  have h1 : 2 ^ k ≤ 2 ^ 12 := Nat.pow_le_pow_right (by omega) (by omega)
  have h2 : n * 2 ^ k ≤ 65536 * 2 ^ 12 := Nat.mul_le_mul (by omega) h1
  exact pk_shlN _ k (iI_shrS k (by omega)) (by omega)
/-- a set without place k: those above come one down -/
def wo (v k : Nat) : Nat := (v &&& (2 ^ k - 1)) ||| (v / 2 ^ (k + 1) * 2 ^ k)
theorem wo_bit (v k i : Nat) : (wo v k).testBit i = if i < k then v.testBit i else v.testBit (i + 1) := by
  unfold wo
  rw [Nat.testBit_or, Nat.testBit_and, Nat.testBit_two_pow_sub_one, Nat.testBit_mul_two_pow, Nat.testBit_div_two_pow]
  by_cases c : i < k
  · rw [if_pos c, decide_eq_true c, decide_eq_false (by omega : ¬ k ≤ i)]
    simp
  · rw [if_neg c, decide_eq_false c, decide_eq_true (by omega : k ≤ i), Bool.and_false, Bool.false_or, Bool.true_and]
    congr 1
    omega
theorem wo_lt {v k m : Nat} (hv : v < 2 ^ (m + 1)) (hk : k ≤ m) : wo v k < 2 ^ m := by
  refine Nat.lt_pow_two_of_testBit _ fun i hi => ?_
  rw [wo_bit, if_neg (by omega)]
  exact Nat.testBit_lt_two_pow (Nat.lt_of_lt_of_le hv (Nat.pow_le_pow_right (by omega) (by omega)))
theorem wo_eq {v k : Nat} (hv : v < 4096) (hk : k < 12) : (iI v &&& ((1 : Int32) <<< (iI (k : Nat) &&& 31) - 1)) ||| ((iI v >>> ((iI (k : Nat) + 1) &&& 31)) <<< (iI (k : Nat) &&& 31)) = iI ((wo v k : Nat) : Int) := by
  have h1 := Nat.two_pow_pos k
  have h2 : v / 2 ^ (k + 1) ≤ v := Nat.div_le_self _ _
  rw [iI_shl1 k (by omega), iI_succ, iI_shr (by omega) (by omega), iI_shl (by omega) (by omega), iI_lit 1, iI_sub, show ((2 ^ k : Nat) : Int) - ((1 : Nat) : Int) = ((2 ^ k - 1 : Nat) : Int) by omega, iI_and, iI_or]
  rfl
theorem sp_withoutPlace {v k : Nat} (hv : v < 4096) (hk : k < 12) {Q : Int32 → Prop} (hQ : Q (iI ((wo v k : Nat) : Int))) : wp_X8_withoutPlace (iI v) (iI (k : Nat)) Q := by
  unfold wp_X8_withoutPlace
  intro a ha b hb
  subst ha; subst hb
  rw [wo_eq hv hk]
  exact hQ
theorem sp_without {v k : Nat} (hv : v < 4096) (hk : k < 12) {Q : Int32 → Prop} (hQ : Q (iI ((wo v k : Nat) : Int))) : wp_X11_without (iI v) (iI (k : Nat)) Q := by
  unfold wp_X11_without
  intro a ha
  subst ha
  rw [wo_eq hv hk]
  exact hQ
/-- a set with bit k on or off -/
def tb (v k : Nat) (on : Bool) : Nat := if on = true then v ||| 2 ^ k else v &&& (4095 ^^^ 2 ^ k)
theorem tb_lt {v k m : Nat} {on : Bool} (hv : v < 2 ^ m) (hk : k < m) : tb v k on < 2 ^ m := by
  unfold tb
  split
  · exact Nat.or_lt_two_pow hv (Nat.pow_lt_pow_right (by omega) hk)
  · exact Nat.lt_of_le_of_lt Nat.and_le_left hv
theorem sp_withBit {v k : Nat} (hv : v < 4096) (hk : k < 12) {p : Int32} {on : Bool} (hp : p = if on = true then 1 else 0) {Q : Int32 → Prop} (hQ : Q (iI ((tb v k on : Nat) : Int))) : wp_X10_withBit (iI v) (iI (k : Nat)) p Q := by
  unfold wp_X10_withBit
  unfold tb at hQ
  rw [iI_shl1 k (by omega)]
  cases on with
  | true =>
    rw [if_pos rfl] at hQ hp
    rw [iI_or]
    exact ⟨fun z => absurd (hp.symm.trans z) (by decide), fun _ => hQ⟩
  | false =>
    rw [if_neg (by decide)] at hQ hp
    rw [iI_andn hv]
    exact ⟨fun _ => hQ, fun z => absurd hp z⟩
theorem sp_turned {v k : Nat} (hv : v < 4096) (hk : k < 12) {p : Int32} {on : Bool} (hp : p = if on = true then 1 else 0) {Q : Int32 → Prop} (hQ : Q (iI ((tb v k on : Nat) : Int))) : wp_X11_turned (iI v) (iI (k : Nat)) p Q := by
  have := sp_withBit hv hk hp hQ
  unfold wp_X10_withBit at this
  unfold wp_X11_turned
  exact this
/-- an item more -/
def adS (s : Nat → Nat) (a b c : Nat) : Nat → Nat := fun i => if i = 0 then s 0 + 1 else if i = 6 + 5 * s 0 then a else if i = 6 + 5 * s 0 + 1 then b else if i = 6 + 5 * s 0 + 2 then c else if i = 6 + 5 * s 0 + 3 then 0 else if i = 6 + 5 * s 0 + 4 then 0 else s i
theorem adS_0 {s : Nat → Nat} {a b c : Nat} : adS s a b c 0 = s 0 + 1 := if_pos rfl
theorem adS_low {s : Nat → Nat} {a b c i : Nat} (h : i ≠ 0) (h2 : i < 6 + 5 * s 0) : adS s a b c i = s i := by
  unfold adS
  rw [if_neg h, if_neg (by omega), if_neg (by omega), if_neg (by omega), if_neg (by omega), if_neg (by omega)]
theorem adS_new {s : Nat → Nat} {a b c w : Nat} (hw : w < 5) : adS s a b c (6 + 5 * s 0 + w) = if w = 0 then a else if w = 1 then b else if w = 2 then c else 0 := by
  unfold adS
  rcases (show w = 0 ∨ w = 1 ∨ w = 2 ∨ w = 3 ∨ w = 4 by omega) with rfl | rfl | rfl | rfl | rfl
  · show _ = a; rw [if_neg (by omega), if_pos (by omega)]
  · rw [if_neg (by omega), if_neg (by omega), if_pos rfl]; rfl
  · rw [if_neg (by omega), if_neg (by omega), if_neg (by omega), if_pos rfl]; rfl
  · rw [if_neg (by omega), if_neg (by omega), if_neg (by omega), if_neg (by omega), if_pos rfl]; rfl
  · rw [if_neg (by omega), if_neg (by omega), if_neg (by omega), if_neg (by omega), if_neg (by omega), if_pos rfl]; rfl
theorem WF_adS {s : Nat → Nat} (hW : WF s) (h : s 0 < 12) {a b c : Nat} (ha : a ≤ 99) (hb : b ≤ 99) (hc : c ≤ 99) : WF (adS s a b c) := by
  obtain ⟨h0, h1, h2, h3, h4, h5, h6⟩ := hW
  have e : 2 ^ (s 0 + 1) = 2 ^ s 0 * 2 := Nat.pow_succ 2 (s 0)
  have p := Nat.two_pow_pos (s 0)
  refine ⟨by rw [adS_0]; omega, by rw [adS_low (by omega) (by omega)]; exact h1, by rw [adS_low (by omega) (by omega)]; exact h2, by rw [adS_low (by omega) (by omega), adS_0]; omega, by rw [adS_low (by omega) (by omega), adS_0]; omega, by rw [adS_low (by omega) (by omega), adS_0]; omega, fun k hk => ?_⟩
  rw [adS_0] at hk
  by_cases c9 : k < s 0
  · obtain ⟨q1, q2, q3, q4, q5⟩ := h6 k c9
    rw [adS_0, adS_low (by omega) (by omega), adS_low (by omega) (by omega), adS_low (by omega) (by omega), adS_low (by omega) (by omega), adS_low (by omega) (by omega)]
    exact ⟨q1, q2, q3, by omega, by omega⟩
  · obtain rfl : k = s 0 := by omega
    have n0 := adS_new (s := s) (a := a) (b := b) (c := c) (w := 0) (by omega)
    have n1 := adS_new (s := s) (a := a) (b := b) (c := c) (w := 1) (by omega)
    have n2 := adS_new (s := s) (a := a) (b := b) (c := c) (w := 2) (by omega)
    have n3 := adS_new (s := s) (a := a) (b := b) (c := c) (w := 3) (by omega)
    have n4 := adS_new (s := s) (a := a) (b := b) (c := c) (w := 4) (by omega)
    simp only [Nat.add_zero] at n0
    rw [adS_0, n0, n1, n2, n3, n4]
    refine ⟨ha, hb, hc, ?_, ?_⟩ <;> simp <;> omega
theorem up_new {f : Nat → Int32} {n : Nat} {v : Int32} : upd f n v n = v := pk_us
theorem sp_addLast {s : Nat → Nat} (h : s 0 < 12) {items cap lim mus nev hand : Int32} {w g j b n : Nat → Int32} (hS : suP s items cap lim mus nev hand w g j b n) {x y z : Nat} {Q : Int32 → (Nat → Int32) → (Nat → Int32) → (Nat → Int32) → (Nat → Int32) → (Nat → Int32) → Prop}
    (hQ : ∀ items w g j b n, suP (adS s x y z) items cap lim mus nev hand w g j b n → Q items w g j b n) : wp_X8_addLast (iI (x : Nat)) (iI (y : Nat)) (iI (z : Nat)) items w g j b n Q := by
  obtain ⟨s0, s1, s2, s3, s4, s5, s6⟩ := hS
  subst s0
  unfold wp_X8_addLast
  have hi : vp_in (iI (s 0)) 12 := in_lit h (by omega)
  rw [iI_lit 12, iI_le (by omega) (by omega) (by omega) (by omega), iI_clN (by omega)]
  refine ⟨fun c => absurd c (by omega), fun _ => ⟨hi, hi, hi, hi, hi, hQ _ _ _ _ _ _ ?_⟩⟩
  refine ⟨by rw [adS_0, iI_succ], by rw [adS_low (by omega) (by omega)]; exact s1, by rw [adS_low (by omega) (by omega)]; exact s2, by rw [adS_low (by omega) (by omega)]; exact s3, by rw [adS_low (by omega) (by omega)]; exact s4, by rw [adS_low (by omega) (by omega)]; exact s5, fun k hk => ?_⟩
  rw [adS_0] at hk
  by_cases c9 : k < s 0
  · rw [pk_un (by omega), pk_un (by omega), pk_un (by omega), pk_un (by omega), pk_un (by omega), adS_low (by omega) (by omega), adS_low (by omega) (by omega), adS_low (by omega) (by omega), adS_low (by omega) (by omega), adS_low (by omega) (by omega)]
    exact s6 k c9
  · obtain rfl : k = s 0 := by omega
    have n0 := adS_new (s := s) (a := x) (b := y) (c := z) (w := 0) (by omega)
    have n1 := adS_new (s := s) (a := x) (b := y) (c := z) (w := 1) (by omega)
    have n2 := adS_new (s := s) (a := x) (b := y) (c := z) (w := 2) (by omega)
    have n3 := adS_new (s := s) (a := x) (b := y) (c := z) (w := 3) (by omega)
    have n4 := adS_new (s := s) (a := x) (b := y) (c := z) (w := 4) (by omega)
    simp only [Nat.add_zero] at n0
    rw [pk_us, pk_us, pk_us, pk_us, pk_us, n0, n1, n2, n3, n4]
    exact ⟨rfl, rfl, rfl, iI_lit 0, iI_lit 0⟩
theorem suP_cpy {s : Nat → Nat} (hW : WF s) {items cap lim mus nev hand : Int32} {w g j b n w2 g2 j2 b2 n2 : Nat → Int32} (hS : suP s items cap lim mus nev hand w g j b n) : suP s items cap lim mus nev hand (va_cpy w w2 0 0 12) (va_cpy g g2 0 0 12) (va_cpy j j2 0 0 12) (va_cpy b b2 0 0 12) (va_cpy n n2 0 0 12) := by
  obtain ⟨s0, s1, s2, s3, s4, s5, s6⟩ := hS
  have h := hW.1
  refine ⟨s0, s1, s2, s3, s4, s5, fun k hk => ?_⟩
  have e : ∀ f f2 : Nat → Int32, va_cpy f f2 0 0 12 k = f k := fun f f2 => by
    unfold va_cpy
    rw [if_pos (by omega)]
    congr 1
    omega
  rw [e, e, e, e, e]
  exact s6 k hk
theorem sp_copyFrom {s : Nat → Nat} (hW : WF s) {t1_items : Int32} {t1_capacity : Int32} {t1_limit : Int32} {t1_mustSet : Int32} {t1_neverSet : Int32} {t1_hand : Int32} {t_items : Int32} {t_capacity : Int32} {t_limit : Int32} {t_mustSet : Int32} {t_neverSet : Int32} {t_hand : Int32} {t1_weight : Nat → Int32} {t_weight : Nat → Int32} {t1_gain : Nat → Int32} {t_gain : Nat → Int32} {t1_joy : Nat → Int32} {t_joy : Nat → Int32} {t1_bars : Nat → Int32} {t_bars : Nat → Int32} {t1_needs : Nat → Int32} {t_needs : Nat → Int32} {Q : Int32 → Int32 → Int32 → Int32 → Int32 → Int32 → (Nat → Int32) → (Nat → Int32) → (Nat → Int32) → (Nat → Int32) → (Nat → Int32) → Prop} (hS : suP s t1_items t1_capacity t1_limit t1_mustSet t1_neverSet t1_hand t1_weight t1_gain t1_joy t1_bars t1_needs) (hQ : ∀ items cap lim mus nev hand w g j b n, suP s items cap lim mus nev hand w g j b n → Q items cap lim mus nev hand w g j b n) : wp_X8_copyFrom t1_items t1_capacity t1_limit t1_mustSet t1_neverSet t1_hand t_items t_capacity t_limit t_mustSet t_neverSet t_hand t1_weight t_weight t1_gain t_gain t1_joy t_joy t1_bars t_bars t1_needs t_needs Q := by
  unfold wp_X8_copyFrom
  exact hQ _ _ _ _ _ _ _ _ _ _ _ (suP_cpy hW hS)
/-- the item that stands at place j once item k is gone -/
def nx (k j : Nat) : Nat := if j < k then j else j + 1
/-- an item less -/
def drS (s : Nat → Nat) (k : Nat) : Nat → Nat := fun i => if i = 0 then s 0 - 1 else if i < 3 then s i else if i < 6 then wo (s i) k else if (i - 6) % 5 < 3 then s (6 + 5 * nx k ((i - 6) / 5) + (i - 6) % 5) else wo (s (6 + 5 * nx k ((i - 6) / 5) + (i - 6) % 5)) k
theorem drS_it {s : Nat → Nat} {k j w : Nat} (hw : w < 5) : drS s k (6 + 5 * j + w) = if w < 3 then s (6 + 5 * nx k j + w) else wo (s (6 + 5 * nx k j + w)) k := by
  unfold drS
  rw [if_neg (by omega), if_neg (by omega), if_neg (by omega), show (6 + 5 * j + w - 6) % 5 = w by omega, show (6 + 5 * j + w - 6) / 5 = j by omega]
theorem drS_it0 {s : Nat → Nat} {k j : Nat} : drS s k (6 + 5 * j) = s (6 + 5 * nx k j) := by
  have := drS_it (s := s) (k := k) (j := j) (w := 0) (by omega)
  simpa using this
theorem drS_0 {s : Nat → Nat} {k : Nat} : drS s k 0 = s 0 - 1 := if_pos rfl
theorem drS_12 {s : Nat → Nat} {k i : Nat} (h0 : i ≠ 0) (h : i < 3) : drS s k i = s i := by
  unfold drS
  rw [if_neg h0, if_pos h]
theorem drS_35 {s : Nat → Nat} {k i : Nat} (h0 : 3 ≤ i) (h : i < 6) : drS s k i = wo (s i) k := by
  unfold drS
  rw [if_neg (by omega), if_neg (by omega), if_pos h]
theorem WF_drS {s : Nat → Nat} (hW : WF s) {k : Nat} (hk : k < s 0) : WF (drS s k) := by
  obtain ⟨h0, h1, h2, h3, h4, h5, h6⟩ := hW
  obtain ⟨m, hm⟩ : ∃ m, s 0 = m + 1 := ⟨s 0 - 1, by omega⟩
  rw [hm] at h3 h4 h5 h6 hk
  have wl : ∀ v, v < 2 ^ (m + 1) → wo v k < 2 ^ m := fun v hv => wo_lt hv (by omega)
  have z0 : drS s k 0 = m := by rw [drS_0, hm]; rfl
  refine ⟨by rw [z0]; omega, by rw [drS_12 (by omega) (by omega)]; exact h1, by rw [drS_12 (by omega) (by omega)]; exact h2, by rw [drS_35 (by omega) (by omega), z0]; exact wl _ h3, by rw [drS_35 (by omega) (by omega), z0]; exact wl _ h4, by rw [drS_35 (by omega) (by omega), z0]; exact wl _ h5, fun j hj => ?_⟩
  rw [z0] at hj
  have hn : nx k j < m + 1 := by unfold nx; split <;> omega
  obtain ⟨q1, q2, q3, q4, q5⟩ := h6 _ hn
  have i1 := drS_it (s := s) (k := k) (j := j) (w := 1) (by omega)
  have i2 := drS_it (s := s) (k := k) (j := j) (w := 2) (by omega)
  have i3 := drS_it (s := s) (k := k) (j := j) (w := 3) (by omega)
  have i4 := drS_it (s := s) (k := k) (j := j) (w := 4) (by omega)
  rw [drS_it0, i1, i2, i3, i4, z0, if_pos (by omega), if_pos (by omega), if_neg (by omega), if_neg (by omega)]
  exact ⟨q1, q2, q3, wl _ q4, wl _ q5⟩
/-- a row with places k to x-1 shifted -/
def shf (f : Nat → Int32) (k x : Nat) : Nat → Int32 := fun j => if k ≤ j ∧ j < x then f (j + 1) else f j
theorem shf_0 {f : Nat → Int32} {k : Nat} : shf f k k = f := by
  funext j
  unfold shf
  rw [if_neg (by omega)]
theorem shf_s {f : Nat → Int32} {k x : Nat} (h : k ≤ x) : upd (shf f k x) x (shf f k x (x + 1)) = shf f k (x + 1) := by
  funext j
  by_cases c : j = x
  · rw [c, pk_us]
    unfold shf
    rw [if_neg (by omega), if_pos (by omega)]
  · rw [pk_un c]
    unfold shf
    by_cases d : k ≤ j ∧ j < x
    · rw [if_pos d, if_pos (by omega)]
    · rw [if_neg d, if_neg (by omega)]
theorem shf_nx {f : Nat → Int32} {k x j : Nat} (hj : j < x) : shf f k x j = f (nx k j) := by
  unfold shf nx
  by_cases c : j < k
  · rw [if_neg (by omega), if_pos c]
  · rw [if_pos (by omega), if_neg c]
theorem sl_drop12 {m k : Nat} (hm : m < 12) {x1 : Int32} {t_items : Int32} {t_mustSet : Int32} {t_neverSet : Int32} {t_hand : Int32} {k96 : (Nat → Int32) → (Nat → Int32) → (Nat → Int32) → (Nat → Int32) → (Nat → Int32) → Prop} {Q : Int32 → Int32 → Int32 → Int32 → (Nat → Int32) → (Nat → Int32) → (Nat → Int32) → (Nat → Int32) → (Nat → Int32) → Prop} (hi : t_items = iI (m : Nat)) {w g jj b n : Nat → Int32} (hk : k96 (shf w k m) (shf g k m) (shf jj k m) (shf b k m) (shf n k m)) :
    ∀ (d x : Nat), x + d = m → k ≤ x → wp_X8_drop_L12 x1 t_items t_mustSet t_neverSet t_hand k96 Q (d + 1) (iI (x : Nat)) (shf w k x) (shf g k x) (shf jj k x) (shf b k x) (shf n k x) := by
  intro d
  induction d with
  | zero =>
    intro x hx hkx
    unfold wp_X8_drop_L12
    obtain rfl : x = m := by omega
    exact ⟨fun _ => hk, fun z => absurd (by rw [hi]; exact Int32.le_refl _) z⟩
  | succ d ih =>
    intro x hx hkx
    have nx_ := ih (x + 1) (by omega) (by omega)
    have e0 : t_items ≤ iI (x : Nat) ↔ (m : Int) ≤ (x : Int) := by rw [hi, iI_le (by omega) (by omega) (by omega) (by omega)]
    have i1 : vp_in (iI (x : Nat)) 12 := in_lit (by omega) (by omega)
    have i2 : vp_in (iI ((x + 1 : Nat) : Int)) 12 := in_lit (by omega) (by omega)
    unfold wp_X8_drop_L12
    rw [e0, iI_succ, iI_clN (by omega), iI_clN (z := x + 1) (by omega), shf_s hkx, shf_s hkx, shf_s hkx, shf_s hkx, shf_s hkx]
    exact ⟨fun z => absurd z (by omega), fun _ => ⟨i2, i1, i2, i1, i2, i1, i2, i1, i2, i1, nx_⟩⟩
/-- the first x places of a row of sets come without item k -/
def wrow (f : Nat → Int32) (F : Nat → Nat) (k x : Nat) (r : Nat → Int32) : Prop := (∀ j, j < x → r j = iI ((wo (F j) k : Nat) : Int)) ∧ ∀ j, x ≤ j → r j = f j
theorem wrow_s {f r : Nat → Int32} {F : Nat → Nat} {k x : Nat} (h : wrow f F k x r) : wrow f F k (x + 1) (upd r x (iI ((wo (F x) k : Nat) : Int))) := by
  refine ⟨fun j hj => ?_, fun j hj => ?_⟩
  · by_cases c : j = x
    · rw [c, pk_us]
    · rw [pk_un c]; exact h.1 j (by omega)
  · rw [pk_un (by omega)]; exact h.2 j (by omega)
theorem sl_drop98 {m k : Nat} (hm : m < 12) (hk12 : k < 12) {x1 : Int32} {t_items : Int32} {t_mustSet : Int32} {t_neverSet : Int32} {t_hand : Int32} {t_weight : Nat → Int32} {t_gain : Nat → Int32} {t_joy : Nat → Int32} {k144 : (Nat → Int32) → (Nat → Int32) → Prop} {Q : Int32 → Int32 → Int32 → Int32 → (Nat → Int32) → (Nat → Int32) → (Nat → Int32) → (Nat → Int32) → (Nat → Int32) → Prop} (hi : t_items = iI (m : Nat)) (hx1 : x1 = iI (k : Nat)) {b n : Nat → Int32} {Fb Fn : Nat → Nat} (hb : ∀ j, j < m → b j = iI (Fb j : Nat) ∧ Fb j < 4096) (hn : ∀ j, j < m → n j = iI (Fn j : Nat) ∧ Fn j < 4096) (hk : ∀ b2 n2, wrow b Fb k m b2 → wrow n Fn k m n2 → k144 b2 n2) :
    ∀ (d x : Nat) (b2 n2 : Nat → Int32), x + d = m → wrow b Fb k x b2 → wrow n Fn k x n2 → wp_X8_drop_L98 x1 t_items t_mustSet t_neverSet t_hand t_weight t_gain t_joy k144 Q (d + 1) (iI (x : Nat)) b2 n2 := by
  subst hx1
  intro d
  induction d with
  | zero =>
    intro x b2 n2 hx h1 h2
    unfold wp_X8_drop_L98
    obtain rfl : x = m := by omega
    exact ⟨fun _ => hk _ _ h1 h2, fun z => absurd (by rw [hi]; exact Int32.le_refl _) z⟩
  | succ d ih =>
    intro x b2 n2 hx h1 h2
    have e0 : t_items ≤ iI (x : Nat) ↔ (m : Int) ≤ (x : Int) := by rw [hi, iI_le (by omega) (by omega) (by omega) (by omega)]
    have i1 : vp_in (iI (x : Nat)) 12 := in_lit (by omega) (by omega)
    unfold wp_X8_drop_L98
    rw [e0, iI_succ, iI_clN (by omega), h1.2 x (Nat.le_refl x), h2.2 x (Nat.le_refl x), (hb x (by omega)).1, (hn x (by omega)).1]
    refine ⟨fun z => absurd z (by omega), fun _ => ⟨i1, sp_withoutPlace (hb x (by omega)).2 hk12 ⟨i1, i1, sp_withoutPlace (hn x (by omega)).2 hk12 ⟨i1, ?_⟩⟩⟩⟩
    exact ih (x + 1) _ _ (by omega) (wrow_s h1) (wrow_s h2)
theorem sp_dropS {s : Nat → Nat} (hW : WF s) {k : Nat} (hk : k < s 0) {items cap lim mus nev hand : Int32} {w g j b n : Nat → Int32} (hS : suP s items cap lim mus nev hand w g j b n) {Q : Int32 → Int32 → Int32 → Int32 → (Nat → Int32) → (Nat → Int32) → (Nat → Int32) → (Nat → Int32) → (Nat → Int32) → Prop}
    (hQ : ∀ items mus nev hand w g j b n, suP (drS s k) items cap lim mus nev hand w g j b n → Q items mus nev hand w g j b n) : wp_X8_drop (iI (k : Nat)) items mus nev hand w g j b n Q := by
  obtain ⟨s0, s1, s2, s3, s4, s5, s6⟩ := hS
  obtain ⟨h0, h1, h2, h3, h4, h5, h6⟩ := id hW
  have hp := wf_pow hW
  subst s0
  obtain ⟨m, hm⟩ : ∃ m, s 0 = m + 1 := ⟨s 0 - 1, by omega⟩
  have em : iI (s 0) - 1 = iI (m : Nat) := by rw [iI_lit 1, iI_sub]; congr 1; omega
  unfold wp_X8_drop
  rw [em]
  have st := fun {kk : (Nat → Int32) → (Nat → Int32) → (Nat → Int32) → (Nat → Int32) → (Nat → Int32) → Prop} (hh : kk (shf w k m) (shf g k m) (shf j k m) (shf b k m) (shf n k m)) => sl_drop12 (m := m) (k := k) (by omega) (x1 := iI (k : Nat)) (t_mustSet := mus) (t_neverSet := nev) (t_hand := hand) (Q := Q) rfl hh (m - k) k (by omega) (Nat.le_refl k)
  simp only [shf_0] at st
  refine ⟨m - k + 1, st ⟨m + 1, ?_⟩⟩
  rw [show (0 : Int32) = iI ((0 : Nat) : Int) from iI_lit 0]
  refine sl_drop98 (m := m) (k := k) (by omega) (by omega) rfl rfl (b := shf b k m) (n := shf n k m) (Fb := fun j => s (6 + 5 * nx k j + 3)) (Fn := fun j => s (6 + 5 * nx k j + 4)) (fun i hi => ?_) (fun i hi => ?_) (fun b2 n2 q1 q2 => ?_) m 0 _ _ (Nat.zero_add m) ⟨fun _ z => absurd z (by omega), fun _ _ => rfl⟩ ⟨fun _ z => absurd z (by omega), fun _ _ => rfl⟩
  · have hn : nx k i < s 0 := by unfold nx; split <;> omega
    rw [shf_nx hi]
    exact ⟨(s6 _ hn).2.2.2.1, by have := (h6 _ hn).2.2.2.1; omega⟩
  · have hn : nx k i < s 0 := by unfold nx; split <;> omega
    rw [shf_nx hi]
    exact ⟨(s6 _ hn).2.2.2.2, by have := (h6 _ hn).2.2.2.2; omega⟩
  rw [s3, s4, s5]
  refine sp_withoutPlace (by omega) (by omega) (sp_withoutPlace (by omega) (by omega) (sp_withoutPlace (by omega) (by omega) (hQ _ _ _ _ _ _ _ _ _ ?_)))
  have z0 : drS s k 0 = m := by rw [drS_0, hm]; rfl
  refine ⟨by rw [z0], by rw [drS_12 (by omega) (by omega)]; exact s1, by rw [drS_12 (by omega) (by omega)]; exact s2, by rw [drS_35 (by omega) (by omega)], by rw [drS_35 (by omega) (by omega)], by rw [drS_35 (by omega) (by omega)], fun i hi => ?_⟩
  rw [z0] at hi
  have hn : nx k i < s 0 := by unfold nx; split <;> omega
  obtain ⟨r1, r2, r3, r4, r5⟩ := s6 _ hn
  have i1 := drS_it (s := s) (k := k) (j := i) (w := 1) (by omega)
  have i2 := drS_it (s := s) (k := k) (j := i) (w := 2) (by omega)
  have i3 := drS_it (s := s) (k := k) (j := i) (w := 3) (by omega)
  have i4 := drS_it (s := s) (k := k) (j := i) (w := 4) (by omega)
  rw [drS_it0, i1, i2, i3, i4, if_pos (by omega), if_pos (by omega), if_neg (by omega), if_neg (by omega), shf_nx hi, shf_nx hi, shf_nx hi, q1.1 i hi, q2.1 i hi]
  exact ⟨r1, r2, r3, rfl, rfl⟩
