/-! QUESTIONS OF THE FRONTIER: best, nearest, beaten, counts -/
/-- the first place with the greatest value, or -1 -/
def gb (v : Nat → Int) : Nat → Int
  | 0 => -1
  | n + 1 => if gb v n = -1 ∨ v (gb v n).toNat < v n then (n : Int) else gb v n
def gv (i0 : Int) (v : Nat → Int) (n : Nat) : Int := if gb v n = -1 then i0 else v (gb v n).toNat
theorem gb_rng {v : Nat → Int} : ∀ {n : Nat}, gb v n = -1 ∨ ∃ k : Nat, k < n ∧ gb v n = (k : Int)
  | 0 => Or.inl rfl
  | n + 1 => by
    simp only [gb]
    split
    · exact Or.inr ⟨n, by omega, rfl⟩
    · rcases gb_rng (v := v) (n := n) with h | ⟨k, hk, h⟩
      · exact Or.inl h
      · exact Or.inr ⟨k, by omega, h⟩
theorem gb_pos {v : Nat → Int} : ∀ {n : Nat}, 0 < n → ∃ k : Nat, k < n ∧ gb v n = (k : Int)
  | 0, h => absurd h (by omega)
  | n + 1, _ => by
    simp only [gb]
    split
    · exact ⟨n, by omega, rfl⟩
    · rename_i c
      rcases gb_rng (v := v) (n := n) with h | ⟨k, hk, h⟩
      · exact absurd (Or.inl h) c
      · exact ⟨k, by omega, h⟩
theorem gb_keep {v : Nat → Int} {i0 : Int} {n : Nat} (h : i0 < v n) (c : v n ≤ gv i0 v n) : gb v (n + 1) = gb v n := by
  unfold gv at c
  simp only [gb]
  split at c
  · omega
  · rename_i e
    rw [if_neg]
    rintro (z | z)
    · exact e z
    · omega
theorem gb_take {v : Nat → Int} {i0 : Int} {n : Nat} (c : ¬ v n ≤ gv i0 v n) : gb v (n + 1) = n := by
  unfold gv at c
  simp only [gb]
  split at c
  · rename_i e; rw [if_pos (Or.inl e)]
  · rw [if_pos (Or.inr (by omega))]
theorem gv_keep {v : Nat → Int} {i0 : Int} {n : Nat} (h : i0 < v n) (c : v n ≤ gv i0 v n) : gv i0 v (n + 1) = gv i0 v n := by
  have e := gb_keep h c
  unfold gv
  rw [e]
theorem gv_take {v : Nat → Int} {i0 : Int} {n : Nat} (c : ¬ v n ≤ gv i0 v n) : gv i0 v (n + 1) = v n := by
  have e := gb_take c
  unfold gv
  rw [e, if_neg (by omega)]
  rfl
theorem gv_rng {v : Nat → Int} {i0 a b : Int} {n : Nat} (h : ∀ k, k < n → a ≤ v k ∧ v k ≤ b) (h0 : a ≤ i0 ∧ i0 ≤ b) : a ≤ gv i0 v n ∧ gv i0 v n ≤ b := by
  unfold gv
  rcases gb_rng (v := v) (n := n) with e | ⟨k, hk, e⟩
  · rw [if_pos e]; exact h0
  · rw [e, if_neg (by omega)]
    exact h k hk
/-- a second walk's road: the best so far is compared by its place -/
theorem gb_first {v : Nat → Int} {n : Nat} (c : gb v n = -1) : gb v (n + 1) = n := by
  simp only [gb]
  rw [if_pos (Or.inl c)]
theorem gb_keep2 {v : Nat → Int} {n k : Nat} (e : gb v n = (k : Int)) (c : v n ≤ v k) : gb v (n + 1) = (k : Int) := by
  simp only [gb]
  rw [e, if_neg]
  rintro (z | z)
  · omega
  · have e2 : ((k : Int)).toNat = k := by omega
    rw [e2] at z
    omega
theorem gb_take2 {v : Nat → Int} {n k : Nat} (e : gb v n = (k : Int)) (c : ¬ v n ≤ v k) : gb v (n + 1) = n := by
  simp only [gb]
  rw [e, if_pos]
  refine Or.inr ?_
  have e2 : ((k : Int)).toNat = k := by omega
  rw [e2]
  omega
def vl (h : Nat → Int) (p q : Int) (n : Nat) : Int := p * (PG h n : Int) + q * PJ h n
theorem vl_rng {h : Nat → Int} (hs : stP h) {p q : Int} (p1 : 0 ≤ p) (p2 : p ≤ 1188) (q1 : 0 ≤ q) (q2 : q ≤ 1188) {n : Nat} (hn : n < PN h) : 0 ≤ vl h p q n ∧ vl h p q n ≤ 2822688 := by
  have hg := PG_rng hn
  have hj := PJ_rng hs hn
  have a1 : 0 ≤ p * (PG h n : Int) := Int.mul_nonneg p1 (by omega)
  have a2 : p * (PG h n : Int) ≤ 1188 * 1188 := Int.mul_le_mul p2 (by omega) (by omega) (by omega)
  have b1 : 0 ≤ q * PJ h n := Int.mul_nonneg q1 hj.1
  have b2 : q * PJ h n ≤ 1188 * 1188 := Int.mul_le_mul q2 hj.2 hj.1 (by omega)
  unfold vl
  omega
theorem sp_valueOf {h : Nat → Int} {gain joy : Nat → Int32} (hG : ptG h gain joy) {n : Nat} (hn : n < PN h) {p q : Int} {Q : Int32 → Prop} (hQ : Q (iI (vl h p q n))) : wp_X2_valueOf (iI (n : Nat)) (iI p) (iI q) gain joy Q := by
  have hN := PN_le h
  unfold wp_X2_valueOf
  rw [iI_clN (by omega), hG.1 n hn, hG.2 n hn, iI_mul, iI_mul, iI_add]
  exact ⟨in_lit (by omega) (by omega), in_lit (by omega) (by omega), hQ⟩
theorem sp_greatestBy {h : Nat → Int} (hs : stP h) {gain joy : Nat → Int32} (hG : ptG h gain joy) {size : Int32} (hsz : size = iI (PN h : Nat)) {p q : Int} (p1 : 0 ≤ p) (p2 : p ≤ 1188) (q1 : 0 ≤ q) (q2 : q ≤ 1188) {Q : Int32 → Prop} (hQ : Q (iI (gb (vl h p q) (PN h)))) : wp_X2_greatestBy (iI p) (iI q) size gain joy Q := by
  have hN := PN_le h
  subst hsz
  have key : ∀ (d n : Nat), n + d = PN h → wp_X2_greatestBy_L8 (iI (PN h : Nat)) gain joy (iI p) (iI q) Q (d + 1) (iI (gb (vl h p q) n)) (iI (gv (-1) (vl h p q) n)) (iI (n : Nat)) := by
    intro d
    induction d with
    | zero =>
      intro n hn
      unfold wp_X2_greatestBy_L8
      obtain rfl : n = PN h := by omega
      exact ⟨fun _ => hQ, fun z => absurd (Int32.le_refl _) z⟩
    | succ d ih =>
      intro n hn
      unfold wp_X2_greatestBy_L8
      have nx := ih (n + 1) (by omega)
      have hv := vl_rng hs p1 p2 q1 q2 (n := n) (by omega)
      have hg := gv_rng (v := vl h p q) (i0 := -1) (a := -1) (b := 2822688) (n := n) (fun k hk => by have := vl_rng hs p1 p2 q1 q2 (n := k) (by omega); omega) (by omega)
      rw [iI_le (by omega) (by omega) (by omega) (by omega)]
      refine ⟨fun z => absurd z (by omega), fun _ => sp_valueOf hG (by omega) ?_⟩
      rw [iI_le (by omega) (by omega) (by omega) (by omega), iI_succ]
      refine ⟨fun c => ?_, fun c => ?_⟩
      · rw [gb_keep (by omega) c, gv_keep (by omega) c] at nx; exact nx
      · rw [gb_take c, gv_take c] at nx; exact nx
  unfold wp_X2_greatestBy
  exact ⟨PN h + 1, by rw [iI_m1, iI_lit 0]; exact key (PN h) 0 (by omega)⟩
theorem sp_bestBy {h : Nat → Int} (hs : stP h) {gain joy : Nat → Int32} (hG : ptG h gain joy) {size : Int32} (hsz : size = iI (PN h : Nat)) {p q : Int} (p1 : 0 ≤ p) (p2 : p ≤ 1188) (q1 : 0 ≤ q) (q2 : q ≤ 1188) {Q : Int32 → Prop} (hQ : Q (iI (gb (vl h p q) (PN h)))) : wp_X11_bestBy (iI p) (iI q) size gain joy Q := by
  have hN := PN_le h
  subst hsz
  have key : ∀ (d n : Nat), n + d = PN h → wp_X11_bestBy_L5 (iI (PN h : Nat)) gain joy (iI p) (iI q) Q (d + 1) (iI (gb (vl h p q) n)) (iI (n : Nat)) := by
    intro d
    induction d with
    | zero =>
      intro n hn
      unfold wp_X11_bestBy_L5
      obtain rfl : n = PN h := by omega
      exact ⟨fun _ => hQ, fun z => absurd (Int32.le_refl _) z⟩
    | succ d ih =>
      intro n hn
      unfold wp_X11_bestBy_L5
      have nx := ih (n + 1) (by omega)
      have hv := vl_rng hs p1 p2 q1 q2 (n := n) (by omega)
      rw [iI_le (by omega) (by omega) (by omega) (by omega), iI_succ]
      refine ⟨fun z => absurd z (by omega), fun _ => ?_⟩
      rcases gb_rng (v := vl h p q) (n := n) with e | ⟨k, hk, e⟩
      · rw [gb_first e] at nx
        rw [e]
        exact ⟨fun _ => nx, fun z => absurd iI_m1.symm z⟩
      · have hk2 := vl_rng hs p1 p2 q1 q2 (n := k) (by omega)
        rw [e]
        refine ⟨fun z => absurd z (by rw [iI_m1, iI_eq (by omega) (by omega) (by omega) (by omega)]; omega), fun _ => ?_⟩
        refine sp_valueOfM hG (by omega) (sp_valueOfM hG (by omega) ?_)
        rw [show p * (PG h n : Int) + q * PJ h n = vl h p q n from rfl, show p * (PG h k : Int) + q * PJ h k = vl h p q k from rfl, iI_le (by omega) (by omega) (by omega) (by omega)]
        refine ⟨fun c => ?_, fun c => ?_⟩
        · rw [gb_keep2 e c] at nx; exact nx
        · rw [gb_take2 e c] at nx; exact nx
  unfold wp_X11_bestBy
  exact ⟨PN h + 1, by rw [iI_m1, iI_lit 0]; exact key (PN h) 0 (by omega)⟩
/-- what a point lacks: weighed distance from the corner of both greatest values -/
def lk (h : Nat → Int) (p q : Int) (n : Nat) : Int := max (p * ((PG h (PN h - 1) : Int) - PG h n)) (q * (PJ h 0 - PJ h n))
theorem lk_rng {h : Nat → Int} (hs : stP h) {p q : Int} (p1 : 0 ≤ p) (p2 : p ≤ 99) (q1 : 0 ≤ q) (q2 : q ≤ 99) {n : Nat} (hn : n < PN h) : (-235224 ≤ p * ((PG h (PN h - 1) : Int) - PG h n) ∧ p * ((PG h (PN h - 1) : Int) - PG h n) ≤ 235224) ∧ (-235224 ≤ q * (PJ h 0 - PJ h n) ∧ q * (PJ h 0 - PJ h n) ≤ 235224) := by
  have hg := PG_rng hn
  have hj := PJ_rng hs hn
  have hg2 := PG_rng (h := h) (n := PN h - 1) (by omega)
  have hj2 := PJ_rng hs (n := 0) (by omega)
  have m1 : ∀ {a b : Int}, 0 ≤ a → a ≤ 99 → -1188 ≤ b → b ≤ 1188 → -235224 ≤ a * b ∧ a * b ≤ 235224 := by
    intro a b h1 h2 h3 h4
    have e1 : a * b ≤ a * 1188 := Int.mul_le_mul_of_nonneg_left h4 h1
    have e2 : a * (-1188) ≤ a * b := Int.mul_le_mul_of_nonneg_left h3 h1
    omega
  exact ⟨m1 p1 p2 (by omega) (by omega), m1 q1 q2 (by omega) (by omega)⟩
theorem iI_mxv {a b : Int} (ha1 : -2147483648 ≤ a) (ha2 : a < 2147483648) (hb1 : -2147483648 ≤ b) (hb2 : b < 2147483648) : (if iI a < iI b then iI b else iI a) = iI (max a b) := iI_mx ha1 ha2 hb1 hb2
theorem sp_leastLack {h : Nat → Int} (hs : stP h) {gain joy : Nat → Int32} (hG : ptG h gain joy) {size : Int32} (hsz : size = iI (PN h : Nat)) {p q : Int} (p1 : 0 ≤ p) (p2 : p ≤ 99) (q1 : 0 ≤ q) (q2 : q ≤ 99) {Q : Int32 → Prop} (hQ : Q (iI (gb (fun n => -lk h p q n) (PN h)))) : wp_X2_leastLack (iI p) (iI q) size gain joy Q := by
  have hN := PN_le h
  subst hsz
  have key : ∀ (d n : Nat), n + d = PN h → ∀ x4 : Int32, (∀ k : Nat, gb (fun n => -lk h p q n) n = (k : Int) → x4 = iI (lk h p q k)) → wp_X2_leastLack_L8 (iI (PN h : Nat)) gain joy (iI p) (iI q) Q (d + 1) (iI (gb (fun n => -lk h p q n) n)) x4 (iI (n : Nat)) := by
    intro d
    induction d with
    | zero =>
      intro n hn x4 _
      unfold wp_X2_leastLack_L8
      obtain rfl : n = PN h := by omega
      exact ⟨fun _ => hQ, fun z => absurd (Int32.le_refl _) z⟩
    | succ d ih =>
      intro n hn x4 hx4
      unfold wp_X2_leastLack_L8
      have nx := ih (n + 1) (by omega)
      have hv := lk_rng hs p1 p2 q1 q2 (n := n) (by omega)
      have e1 : iI (PN h : Nat) - 1 = iI ((PN h - 1 : Nat) : Int) := by
        rw [iI_lit 1, iI_sub]
        exact congrArg iI (by omega)
      rw [iI_le (by omega) (by omega) (by omega) (by omega), iI_succ, e1]
      refine ⟨fun z => absurd z (by omega), fun _ => sp_gainWon hG (by omega) (by omega) ?_⟩
      rw [show (0 : Int32) = iI ((0 : Nat) : Int) from iI_lit 0]
      refine sp_joyLost hG (by omega) (by omega) ?_
      intro v hv2
      rw [iI_mul, iI_mul, iI_mxv (by omega) (by omega) (by omega) (by omega)] at hv2
      have hv3 : v = iI (lk h p q n) := hv2
      subst hv3
      have rl : ∀ m, m < PN h → -235224 ≤ lk h p q m ∧ lk h p q m ≤ 235224 := fun m hm => by
        have := lk_rng hs p1 p2 q1 q2 (n := m) hm
        unfold lk
        omega
      have r1 := rl n (by omega)
      have tk : gb (fun n => -lk h p q n) (n + 1) = (n : Int) → wp_X2_leastLack_L8 (iI (PN h : Nat)) gain joy (iI p) (iI q) Q (d + 1) (iI (n : Nat)) (iI (lk h p q n)) (iI ((n + 1 : Nat) : Int)) := fun e => by
        have := nx (iI (lk h p q n)) (fun k hk => by rw [e] at hk; rw [show k = n by omega])
        rw [e] at this
        exact this
      rcases gb_rng (v := fun n => -lk h p q n) (n := n) with e | ⟨k, hk, e⟩
      · rw [e]
        exact ⟨fun _ => tk (gb_first e), fun z => absurd iI_m1.symm z⟩
      · have r2 := rl k (by omega)
        rw [hx4 k e, e]
        refine ⟨fun z => absurd z (by rw [iI_m1, iI_eq (by omega) (by omega) (by omega) (by omega)]; omega), fun _ => ?_⟩
        rw [iI_le (by omega) (by omega) (by omega) (by omega)]
        refine ⟨fun c => ?_, fun c => tk (gb_take2 e (show ¬ -lk h p q n ≤ -lk h p q k by omega))⟩
        have e3 := gb_keep2 (v := fun n => -lk h p q n) e (show -lk h p q n ≤ -lk h p q k by omega)
        have := nx (iI (lk h p q k)) (fun k2 hk2 => by rw [e3] at hk2; rw [show k2 = k by omega])
        rw [e3] at this
        exact this
  unfold wp_X2_leastLack
  exact ⟨PN h + 1, by rw [iI_m1, iI_lit 0]; exact key (PN h) 0 (by omega) _ (fun k hk => absurd hk (by simp only [gb]; omega))⟩
theorem sp_lackOf {h : Nat → Int} (hs : stP h) {gain joy : Nat → Int32} (hG : ptG h gain joy) {size : Int32} (hsz : size = iI (PN h : Nat)) {p q : Int} (p1 : 0 ≤ p) (p2 : p ≤ 99) (q1 : 0 ≤ q) (q2 : q ≤ 99) {n : Nat} (hn : n < PN h) {Q : Int32 → Prop} (hQ : Q (iI (lk h p q n))) : wp_X11_lackOf (iI (n : Nat)) (iI p) (iI q) size gain joy Q := by
  have hN := PN_le h
  subst hsz
  have hv := lk_rng hs p1 p2 q1 q2 hn
  have e1 : iI (PN h : Nat) - 1 = iI ((PN h - 1 : Nat) : Int) := by
    rw [iI_lit 1, iI_sub]
    exact congrArg iI (by omega)
  unfold wp_X11_lackOf
  rw [e1, show (0 : Int32) = iI ((0 : Nat) : Int) from iI_lit 0, iI_clN (by omega), iI_clN (by omega), iI_clN (by omega), hG.1 n hn, hG.1 (PN h - 1) (by omega), hG.2 n hn, hG.2 0 (by omega), iI_sub, iI_sub, iI_mul, iI_mul]
  refine ⟨in_lit (by omega) (by omega), in_lit (by omega) (by omega), fun v hv2 => ⟨in_lit (by omega) (by omega), in_lit (by omega) (by omega), ?_⟩⟩
  subst hv2
  rw [iI_mxv (by omega) (by omega) (by omega) (by omega)]
  exact hQ
/-- does point n beat a choice of gain g and joy j -/
def bts (h : Nat → Int) (g j : Int) (n : Nat) : Bool := decide (g ≤ PG h n ∧ j ≤ PJ h n ∧ (g < PG h n ∨ j < PJ h n))
theorem sp_beats {h : Nat → Int} (hs : stP h) {gain joy : Nat → Int32} (hG : ptG h gain joy) {n : Nat} (hn : n < PN h) {g j : Int} (g1 : -2147483648 ≤ g) (g2 : g < 2147483648) (j1 : -2147483648 ≤ j) (j2 : j < 2147483648) {Q : Int32 → Prop} (hQ : Q (if bts h g j n = true then 1 else 0)) : wp_X2_beats (iI (n : Nat)) (iI g) (iI j) gain joy Q := by
  have hN := PN_le h
  have hg := PG_rng hn
  have hj := PJ_rng hs hn
  have hi : vp_in (iI (n : Nat)) 1189 := in_lit (by omega) (by omega)
  unfold wp_X2_beats
  rw [iI_clN (by omega), hG.1 n hn, hG.2 n hn, iI_lt (by omega) (by omega) (by omega) (by omega), iI_lt (by omega) (by omega) (by omega) (by omega), iI_lt (by omega) (by omega) (by omega) (by omega), iI_le (by omega) (by omega) (by omega) (by omega)]
  have no : (¬ bts h g j n = true) → Q 0 := fun z => by rw [if_neg z] at hQ; exact hQ
  have ye : bts h g j n = true → Q 1 := fun z => by rw [if_pos z] at hQ; exact hQ
  simp only [bts, decide_eq_true_eq] at no ye
  exact ⟨hi, fun c => no (by omega), fun c1 => ⟨hi, fun c => no (by omega), fun c2 => ⟨hi, fun c => ye (by omega), fun c3 => ⟨hi, fun c => no (by omega), fun c => ye (by omega)⟩⟩⟩⟩
theorem sp_doesBeat {h : Nat → Int} (hs : stP h) {gain joy : Nat → Int32} (hG : ptG h gain joy) {n : Nat} (hn : n < PN h) {g j : Int} (g1 : -2147483648 ≤ g) (g2 : g < 2147483648) (j1 : -2147483648 ≤ j) (j2 : j < 2147483648) {Q : Int32 → Prop} (hQ : Q (if bts h g j n = true then 1 else 0)) : wp_X11_doesBeat (iI (n : Nat)) (iI g) (iI j) gain joy Q := sp_beats hs hG hn g1 g2 j1 j2 hQ
/-- supported points from a on, d of them -/
def sbc (h : Nat → Int) (a : Nat) : Nat → Nat
  | 0 => 0
  | d + 1 => sbc h a d + if MK h (a + d) ≠ 0 then 1 else 0
theorem sbc_le (h : Nat → Int) (a : Nat) : ∀ d, sbc h a d ≤ d
  | 0 => Nat.le_refl _
  | d + 1 => by
    have := sbc_le h a d
    simp only [sbc]
    split <;> omega
theorem sp_supportedBetween {h : Nat → Int} {mark : Nat → Int32} (hm : ∀ n, n < PN h → mark n = iI (MK h n : Nat)) {size : Int32} (hsz : size = iI (PN h : Nat)) {a b : Nat} {p1 : Int32} (hp1 : p1 + 1 = iI (a : Nat)) (hab : a ≤ b) (hb : b ≤ PN h) {Q : Int32 → Prop} (hQ : Q (iI (sbc h a (b - a) : Nat))) : wp_X2_supportedBetween p1 (iI (b : Nat)) size mark Q := by
  have hN := PN_le h
  subst hsz
  have key : ∀ (e d : Nat), a + d + e = b → wp_X2_supportedBetween_L7 (iI (PN h : Nat)) mark (iI (b : Nat)) Q (e + 1) (iI (sbc h a d : Nat)) (iI ((a + d : Nat) : Int)) := by
    intro e
    induction e with
    | zero =>
      intro d hd
      unfold wp_X2_supportedBetween_L7
      obtain rfl : d = b - a := by omega
      rw [show a + (b - a) = b by omega]
      exact ⟨fun _ => hQ, fun z => absurd (Int32.le_refl _) z⟩
    | succ e ih =>
      intro d hd
      have nx := ih (d + 1) (by omega)
      unfold wp_X2_supportedBetween_L7
      have hM := MKs_le h (VC h) (a + d)
      have hM2 : MK h (a + d) ≤ 2 := hM
      have hi : vp_in (iI ((a + d : Nat) : Int)) 1189 := in_lit (by omega) (by omega)
      rw [iI_le (by omega) (by omega) (by omega) (by omega), iI_le (by omega) (by omega) (by omega) (by omega), iI_clN (by omega), hm (a + d) (by omega), iI_lit 1, iI_lt (by omega) (by omega) (by omega) (by omega), iI_add, ← iI_lit 1, iI_succ]
      refine ⟨fun z => absurd z (by omega), fun _ => ⟨fun z => absurd z (by omega), fun _ => ⟨hi, fun c => ?_, fun c => ?_⟩⟩⟩
      · simp only [sbc] at nx
        rw [if_neg (by omega)] at nx
        exact nx
      · simp only [sbc] at nx
        rw [if_pos (by omega)] at nx
        exact nx
  unfold wp_X2_supportedBetween
  intro v hv
  rw [hp1] at hv
  subst hv
  exact ⟨b - a + 1, by rw [iI_lit 0]; exact key (b - a) 0 (by omega)⟩
