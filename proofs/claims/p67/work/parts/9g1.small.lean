/-! THE LAW'S SMALL WORDS: draws, sums, reasons -/
theorem iN_toInt {k : Nat} (h : k < 2147483648) : (iI (k : Nat)).toInt = (k : Int) := iI_toInt (by omega) (by omega)
section
variable {s : Nat → Nat} {n : Nat} {by_ : Nat → Int} {cc pp : Int} {d : DT}
theorem sN_item (h : IV s n by_ cc pp d) {k w : Nat} {Q : Int32 → DT → Prop} (hk : k < s 0) (hw : w ≤ 4) (hQ : Q (iI (s (6 + 5 * k + w) : Nat)) d) : wpK_X10_item (iI (k : Nat)) (iI (w : Nat)) d Q := by
  have h12 := h.1.1
  have e1 := iN_toInt (k := k) (by omega)
  have e2 := iN_toInt (k := w) (by omega)
  refine sK_item h (by omega) (by omega) ?_
  rw [e1, e2, Int.toNat_natCast, Int.toNat_natCast]
  exact hQ
theorem sN_property (h : IV s n by_ cc pp d) {k : Nat} {Q : Int32 → DT → Prop} (hk : k ≤ 7) (hQ : Q (prv7 s k) d) : wpK_X10_property (iI (k : Nat)) d Q := by
  have e1 := iN_toInt (k := k) (by omega)
  refine sK_property h (by omega) ?_
  rw [e1, Int.toNat_natCast]
  exact hQ
theorem sN_refusal (h : IV s n by_ cc pp d) {q : Nat} {Q : Int32 → DT → Prop} (hq : q < 2 ^ s 0) (hQ : ∀ d2, IV s n by_ cc pp d2 → Q (iI (rf s (s 1) q : Nat)) d2) : wpK_X10_refusal (iI (q : Nat)) d Q := by
  have hp := wf_pow h.1
  have e1 := iN_toInt (k := q) (by omega)
  refine sK_refusal h (by omega) ?_
  rw [e1, Int.toNat_natCast]
  exact hQ
theorem sN_sum (h : IV s n by_ cc pp d) {q w : Nat} {Q : Int32 → DT → Prop} (hq : q < 2 ^ s 0) (hw : w ≤ 2) (hQ : ∀ d2, IV s n by_ cc pp d2 → Q (iI (sm s w q (s 0) : Nat)) d2) : wpK_X10_sum (iI (q : Nat)) (iI (w : Nat)) d Q := by
  have hp := wf_pow h.1
  have e1 := iN_toInt (k := q) (by omega)
  have e2 := iN_toInt (k := w) (by omega)
  refine sK_sum h (by omega) (by omega) ?_
  rw [e1, e2, Int.toNat_natCast, Int.toNat_natCast]
  exact hQ
theorem sN_pointOf (h : IV s n by_ cc pp d) {q : Nat} {Q : Int32 → DT → Prop} (hq : q < 2 ^ s 0) (hQ : ∀ d2, IV s n by_ cc pp d2 → Q (iI (PB s (HH s) q)) d2) : wpK_X10_pointOf (iI (q : Nat)) d Q := by
  have hp := wf_pow h.1
  have e1 := iN_toInt (k := q) (by omega)
  refine sK_pointOf h (by omega) ?_
  rw [e1, Int.toNat_natCast]
  exact hQ
theorem sN_beatenBy (h : IV s n by_ cc pp d) {q : Nat} {Q : Int32 → DT → Prop} (hq : q < 2 ^ s 0) (hQ : ∀ d2, IV s n by_ cc pp d2 → Q (iI (btn s q)) d2) : wpK_X10_beatenBy (iI (q : Nat)) d Q := by
  have hp := wf_pow h.1
  have e1 := iN_toInt (k := q) (by omega)
  refine sK_beatenBy h (by omega) ?_
  rw [e1, Int.toNat_natCast]
  exact hQ
theorem sN_point (h : IV s n by_ cc pp d) {k w : Nat} {Q : Int32 → DT → Prop} (hk : k < PN (HH s)) (hw : w ≤ 6) (hQ : ∀ d2, IV s n by_ cc pp d2 → Q (iI (ptv s k w)) d2) : wpK_X10_point (iI (k : Nat)) (iI (w : Nat)) d Q := by
  have hp := PN_le (HH s)
  have e1 := iN_toInt (k := k) (by omega)
  have e2 := iN_toInt (k := w) (by omega)
  refine sK_point h (by omega) (by omega) ?_
  rw [e1, e2, Int.toNat_natCast, Int.toNat_natCast]
  exact hQ
theorem sN_lightest (h : IV s n by_ cc pp d) {k : Nat} {Q : Int32 → DT → Prop} (hk : k < PN (HH s)) (hQ : ∀ d2, IV s n by_ cc pp d2 → Q (iI (LIg s k : Nat)) d2) : wpK_X10_lightest (iI (k : Nat)) d Q := by
  have hp := PN_le (HH s)
  have e1 := iN_toInt (k := k) (by omega)
  refine sK_lightest h (by omega) ?_
  rw [e1, Int.toNat_natCast]
  exact hQ
theorem sN_layerSize (h : IV s n by_ cc pp d) {k : Nat} {Q : Int32 → DT → Prop} (hk : k < LC s) (hQ : ∀ d2, IV s n by_ cc pp d2 → Q (iI (lsz (HAS s) 4000000 k : Nat)) d2) : wpK_X10_layerSize (iI (k : Nat)) d Q := by
  have hp : LC s ≤ 2377 := lOK_cnt (lrun_ok (prg_has h.1) 4000000)
  have e1 := iN_toInt (k := k) (by omega)
  refine sK_layerSize h (by omega) ?_
  rw [e1, Int.toNat_natCast]
  exact hQ
theorem sN_layerOf (h : IV s n by_ cc pp d) {q : Nat} {Q : Int32 → DT → Prop} (hq : q < 2 ^ s 0) (hQ : ∀ d2, IV s n by_ cc pp d2 → Q (if rf s (s 1) q = 0 then iI (LYR (HAS s) (kyP s q) : Nat) else -1) d2) : wpK_X10_layerOf (iI (q : Nat)) d Q := by
  have hp := wf_pow h.1
  have e1 := iN_toInt (k := q) (by omega)
  refine sK_layerOf h (by omega) ?_
  rw [e1, Int.toNat_natCast]
  exact hQ
theorem sN_setCapacity (h : IV s n by_ cc pp d) {v : Nat} {Q : Int32 → DT → Prop} (hv : v ≤ 999) (hQ : ∀ d2, IV (su s 1 v) n by_ cc pp d2 → Q (iI (s 1 : Nat)) d2) : wpK_X10_setCapacity (iI (v : Nat)) d Q := by
  have e1 := iN_toInt (k := v) (by omega)
  refine sK_setCapacity h (by omega) ?_
  rw [e1, Int.toNat_natCast]
  exact hQ
theorem sN_truncate (h : IV s n by_ cc pp d) {m : Nat} {Q : DT → Prop} (hm : m ≤ n) (hQ : ∀ d2, IV s m by_ cc pp d2 → Q d2) : wpK_X10_truncate (iI (m : Nat)) d Q := by
  obtain ⟨hW, ps, hl, hS, hP, hI, hC, hD, hL⟩ := id h
  have := hI.2.1.1
  have e1 := iN_toInt (k := m) (by omega)
  refine sK_truncate h (by omega) ?_
  rw [e1, Int.toNat_natCast]
  exact hQ
/-! draws -/
def drw (sn : Nat) (sx : Nat → Int32) (k n : Nat) : Nat := ((if k < sn then sx k else 0) &&& 2147483647).toInt.toNat % n
theorem drw_lt {sn : Nat} {sx : Nat → Int32} {k n : Nat} (h : 0 < n) : drw sn sx k n < n := Nat.mod_lt _ h
theorem and_pos31 (x : Int32) : 0 ≤ (x &&& 2147483647).toInt := by
  have e : (x &&& 2147483647).toBitVec = x.toBitVec &&& 2147483647#32 := rfl
  have h1 : (x.toBitVec &&& 2147483647#32).toNat < 2147483648 := by
    rw [BitVec.toNat_and]
    exact Nat.lt_of_le_of_lt Nat.and_le_right (by decide)
  show 0 ≤ (x &&& 2147483647).toBitVec.toInt
  rw [e, BitVec.toInt_eq_toNat_of_lt (by omega)]
  omega
theorem drw_e (x : Int32) {n : Nat} (h1 : 0 < n) (h2 : n < 100000) : (x &&& 2147483647) - (x &&& 2147483647) / iI (n : Nat) * iI (n : Nat) = iI (((x &&& 2147483647).toInt.toNat % n : Nat) : Int) := by
  have p := and_pos31 x
  have b := Int32.toInt_lt (x &&& 2147483647)
  generalize x &&& 2147483647 = y at p b ⊢
  obtain ⟨a, ha⟩ : ∃ a : Nat, y.toInt = a := ⟨y.toInt.toNat, by omega⟩
  have e : y = iI (a : Nat) := by rw [iI_of y, ha]
  rw [ha, Int.toNat_natCast, e, iI_divN (by omega) (by omega) (by omega), iI_mul, iI_sub]
  congr 1
  have := Nat.div_add_mod a n
  have := Nat.mul_comm n (a / n)
  have e3 : ((a / n : Nat) : Int) * (n : Int) = ((a / n * n : Nat) : Int) := by simp
  rw [e3]
  omega
theorem sL_draw {sn : Nat} {sx : Nat → Int32} (hs : sn < 2147483648) {k n : Nat} (hk : k < 100000) (h1 : 0 < n) (h2 : n < 100000) {Q : Int32 → Prop} (hQ : Q (iI (drw sn sx k n : Nat))) : wp_L_draw (iI (k : Nat)) (iI (n : Nat)) sn sx Q := by
  unfold wp_L_draw
  have en : ¬ iI (n : Nat) = 0 := by
    rw [iI_lit 0, iI_eq (by omega) (by omega) (by omega) (by omega)]
    omega
  have es : Int32.ofNat sn = iI (sn : Nat) := iI_nI sn
  rw [es, iI_le (by omega) (by omega) (by omega) (by omega), iI_clN (by omega), drw_e _ h1 h2, drw_e _ h1 h2]
  unfold drw at hQ
  refine ⟨fun c => ⟨en, ?_⟩, fun c => ⟨in_lit (by omega) (by omega), en, ?_⟩⟩
  · rw [if_neg (by omega)] at hQ; exact hQ
  · rw [if_pos (by omega)] at hQ; exact hQ
/-! what beats a pair -/
abbrev bt (g j g2 j2 : Int) : Prop := g2 ≤ g ∧ j2 ≤ j ∧ (g2 < g ∨ j2 < j)
theorem sL_beats {g j g2 j2 : Int} (h1 : -1 ≤ g ∧ g ≤ 100000) (h2 : -1 ≤ j ∧ j ≤ 100000) (h3 : -1 ≤ g2 ∧ g2 ≤ 100000) (h4 : -1 ≤ j2 ∧ j2 ≤ 100000) {Q : Int32 → Prop} (hy : bt g j g2 j2 → Q 1) (hn : ¬ bt g j g2 j2 → Q 0) : wp_L_beats (iI g) (iI j) (iI g2) (iI j2) Q := by
  unfold wp_L_beats
  rw [iI_lt (by omega) (by omega) (by omega) (by omega), iI_lt (by omega) (by omega) (by omega) (by omega), iI_lt (by omega) (by omega) (by omega) (by omega), iI_le (by omega) (by omega) (by omega) (by omega)]
  exact ⟨fun c => hn (by omega), fun c => ⟨fun d => hn (by omega), fun d => ⟨fun e => hy (by omega), fun e => ⟨fun f => hn (by omega), fun f => hy (by omega)⟩⟩⟩⟩
/-! sums -/
theorem bit1 {q k : Nat} (hq : q < 4096) (hk : k < 32) : ((iI (q : Nat) >>> (iI (k : Nat) &&& 31)) &&& (1 : Int32)) = 1 ↔ q.testBit k = true := by
  rw [iI_bit (by omega) hk]
  cases q.testBit k
  · exact ⟨fun z => absurd z (by decide +kernel), fun z => absurd z (by decide)⟩
  · exact ⟨fun _ => rfl, fun _ => by decide +kernel⟩
theorem sm_bd7 {s : Nat → Nat} (hW : WF s) {w : Nat} (hw : w ≤ 2) (q k : Nat) (hk : k ≤ s 0) : sm s w q k ≤ k * 99 := sm_le fun i hi => by
  have := hW.2.2.2.2.2.2 i (by omega)
  rcases (by omega : w = 0 ∨ w = 1 ∨ w = 2) with e | e | e <;> subst e
  · exact this.1
  · exact this.2.1
  · exact this.2.2.1
theorem sL_sum (h : IV s n by_ cc pp d) {q w : Nat} (hq : q < 2 ^ s 0) (hw : w ≤ 2) {Q : Int32 → DT → Prop} (hQ : Q (iI (sm s w q (s 0) : Nat)) d) : wp_L_sum (iI (q : Nat)) (iI (w : Nat)) d Q := by
  have h12 := h.1.1
  have hp := wf_pow h.1
  have key : ∀ (m k : Nat), k + m = s 0 → wp_L_sum_L5 (iI (q : Nat)) (iI (w : Nat)) Q (m + 1) (iI (sm s w q k : Nat)) (iI (k : Nat)) d := by
    intro m
    induction m with
    | zero =>
      intro k hk
      unfold wp_L_sum_L5
      refine sN_property (k := 0) h (by omega) ?_
      show (iI (s 0) ≤ iI (k : Nat) → _) ∧ (¬ iI (s 0) ≤ iI (k : Nat) → _)
      rw [iI_le (by omega) (by omega) (by omega) (by omega)]
      obtain rfl : k = s 0 := by omega
      exact ⟨fun _ => hQ, fun z => absurd (Int.le_refl _) z⟩
    | succ m ih =>
      intro k hk
      unfold wp_L_sum_L5
      refine sN_property (k := 0) h (by omega) ?_
      show (iI (s 0) ≤ iI (k : Nat) → _) ∧ (¬ iI (s 0) ≤ iI (k : Nat) → _)
      rw [iI_le (by omega) (by omega) (by omega) (by omega), bit1 (by omega) (by omega), iI_succ]
      have next := ih (k + 1) (by omega)
      simp only [sm] at next
      refine ⟨fun z => by omega, fun _ => ⟨fun c v hv => ?_, fun c => sN_item h (by omega) (by omega) fun v hv => ?_⟩⟩
      · rw [if_neg c] at next
        rw [show (0 : Int32) = iI ((0 : Nat) : Int) from rfl, iI_add] at hv
        subst hv
        exact next
      · rw [if_pos c] at next
        rw [iI_add] at hv
        subst hv
        exact next
  exact ⟨s 0 + 1, key (s 0) 0 (by omega)⟩
/-! the reason -/
theorem ors_and {s : Nat → Nat} {w set m : Nat} : ∀ {k : Nat}, ors s w set k &&& m = 0 ↔ ∀ i, i < k → set.testBit i = true → s (6 + 5 * i + w) &&& m = 0
  | 0 => by simp [ors]
  | k + 1 => by
    simp only [ors]
    rw [Nat.and_or_distrib_right, Nat.or_eq_zero_iff, ors_and (k := k)]
    constructor
    · intro ⟨a, b⟩ i hi hb
      by_cases e : i = k
      · subst e
        rw [if_pos hb] at b
        exact b
      · exact a i (by omega) hb
    · intro a
      refine ⟨fun i hi => a i (by omega), ?_⟩
      split
      · rename_i c; exact a k (by omega) c
      · simp
theorem iI0 {z : Nat} (hz : z < 4096) : (iI (z : Nat) = (0 : Int32)) ↔ z = 0 := by
  rw [iI_lit 0]
  exact iI_inj4 hz (by omega)
theorem sL_refusal (h : IV s n by_ cc pp d) {q : Nat} (hq : q < 2 ^ s 0) {Q : Int32 → DT → Prop} (hQ : Q (iI (rf s (s 1) q : Nat)) d) : wp_L_refusal (iI (q : Nat)) d Q := by
  have h12 := h.1.1
  have hp := wf_pow h.1
  have hW := h.1
  have c1 := hW.2.1
  have c2 := hW.2.2.1
  have c3 := hW.2.2.2.1
  have c4 := hW.2.2.2.2.1
  have hs := sm_bd7 hW (w := 0) (by omega) q (s 0) (Nat.le_refl _)
  have hb := pcn_le q 12
  unfold wp_L_refusal
  refine sL_sum (w := 0) h hq (by omega) (sN_property (k := 1) h (by omega) ?_)
  show (iI (sm s 0 q (s 0)) ≤ iI (s 1) → _) ∧ (¬ iI (sm s 0 q (s 0)) ≤ iI (s 1) → _)
  rw [iI_le (by omega) (by omega) (by omega) (by omega)]
  unfold rf at hQ
  refine ⟨fun a => ?_, fun a => by rw [if_pos (by omega)] at hQ; exact hQ⟩
  rw [if_neg (by omega)] at hQ
  refine sp_bitCount (by omega) (sN_property (k := 2) h (by omega) ?_)
  show (iI (pcn q 12) ≤ iI (s 2) → _) ∧ (¬ iI (pcn q 12) ≤ iI (s 2) → _)
  rw [iI_le (by omega) (by omega) (by omega) (by omega)]
  unfold rfb at hQ
  refine ⟨fun b => ?_, fun b => by rw [if_pos (by omega)] at hQ; exact hQ⟩
  rw [if_neg (by omega)] at hQ
  have k110 : (∀ i, i < s 0 → q.testBit i = true → s (6 + 5 * i + 3) &&& q = 0) → (∀ i, i < s 0 → q.testBit i = true → s (6 + 5 * i + 4) &&& (4095 ^^^ q) = 0) → wpK_X10_property (5 : Int32) d (fun (r112 : Int32) (u112_8 : DT) => ((r112 &&& (iI (q : Nat) ^^^ (-1 : Int32))) = 0 → (wpK_X10_property (6 : Int32) u112_8 (fun (r127 : Int32) (u127_9 : DT) => ((r127 &&& iI (q : Nat)) = 0 → (Q (0 : Int32) u127_9)) ∧ (¬ (r127 &&& iI (q : Nat)) = 0 → (Q (6 : Int32) u127_9))))) ∧ (¬ (r112 &&& (iI (q : Nat) ^^^ (-1 : Int32))) = 0 → (Q (5 : Int32) u112_8))) := by
    intro a3 a4
    rw [if_neg (fun z => z (ors_and.mpr a3)), if_neg (fun z => z (ors_and.mpr a4))] at hQ
    refine sN_property (k := 5) h (by omega) ?_
    show ((iI (s 3) &&& _) = 0 → _) ∧ (¬ (iI (s 3) &&& _) = 0 → _)
    rw [iI_andn (by omega), iI0 (Nat.lt_of_le_of_lt Nat.and_le_left (by omega))]
    refine ⟨fun e => sN_property (k := 6) h (by omega) ?_, fun e => ?_⟩
    · show ((iI (s 4) &&& _) = 0 → _) ∧ (¬ (iI (s 4) &&& _) = 0 → _)
      rw [iI_and, iI0 (Nat.lt_of_le_of_lt Nat.and_le_left (by omega))]
      rw [if_neg (fun z => z e)] at hQ
      refine ⟨fun f => ?_, fun f => ?_⟩
      · rw [if_neg (fun z => z f)] at hQ; exact hQ
      · rw [if_pos f] at hQ; exact hQ
    · rw [if_pos e] at hQ; exact hQ
  have l71 : (∀ i, i < s 0 → q.testBit i = true → s (6 + 5 * i + 3) &&& q = 0) → ∀ (m k : Nat), k + m = s 0 → (∀ i, i < k → q.testBit i = true → s (6 + 5 * i + 4) &&& (4095 ^^^ q) = 0) → wp_L_refusal_L71 (iI (q : Nat)) (fun d => wpK_X10_property (5 : Int32) d (fun (r112 : Int32) (u112_8 : DT) => ((r112 &&& (iI (q : Nat) ^^^ (-1 : Int32))) = 0 → (wpK_X10_property (6 : Int32) u112_8 (fun (r127 : Int32) (u127_9 : DT) => ((r127 &&& iI (q : Nat)) = 0 → (Q (0 : Int32) u127_9)) ∧ (¬ (r127 &&& iI (q : Nat)) = 0 → (Q (6 : Int32) u127_9))))) ∧ (¬ (r112 &&& (iI (q : Nat) ^^^ (-1 : Int32))) = 0 → (Q (5 : Int32) u112_8)))) Q (m + 1) (iI (k : Nat)) d := by
    intro a3 m
    induction m with
    | zero =>
      intro k hk a4
      unfold wp_L_refusal_L71
      refine sN_property (k := 0) h (by omega) ?_
      show (iI (s 0) ≤ iI (k : Nat) → _) ∧ (¬ iI (s 0) ≤ iI (k : Nat) → _)
      rw [iI_le (by omega) (by omega) (by omega) (by omega)]
      obtain rfl : k = s 0 := by omega
      exact ⟨fun _ => k110 a3 a4, fun z => absurd (Int.le_refl _) z⟩
    | succ m ih =>
      intro k hk a4
      unfold wp_L_refusal_L71
      refine sN_property (k := 0) h (by omega) ?_
      show (iI (s 0) ≤ iI (k : Nat) → _) ∧ (¬ iI (s 0) ≤ iI (k : Nat) → _)
      rw [iI_le (by omega) (by omega) (by omega) (by omega), bit1 (by omega) (by omega), iI_succ]
      have hk4 := (hW.2.2.2.2.2.2 k (by omega)).2.2.2.2
      have st : (q.testBit k = true → s (6 + 5 * k + 4) &&& (4095 ^^^ q) = 0) → ∀ i, i < k + 1 → q.testBit i = true → s (6 + 5 * i + 4) &&& (4095 ^^^ q) = 0 := by
        intro z i hi hb
        by_cases e : i = k
        · subst e; exact z hb
        · exact a4 i (by omega) hb
      refine ⟨fun z => by omega, fun _ => ⟨fun c => ih (k + 1) (by omega) (st fun z => absurd z c), fun c => sN_item (w := 4) h (by omega) (by omega) ?_⟩⟩
      rw [iI_andn (by omega), iI0 (Nat.lt_of_le_of_lt Nat.and_le_left (by omega))]
      refine ⟨fun e => ih (k + 1) (by omega) (st fun _ => e), fun e => ?_⟩
      rw [if_neg (fun z => z (ors_and.mpr a3)), if_pos (fun z => e (ors_and.mp z k (by omega) c))] at hQ
      exact hQ
  have l32 : ∀ (m k : Nat), k + m = s 0 → (∀ i, i < k → q.testBit i = true → s (6 + 5 * i + 3) &&& q = 0) → wp_L_refusal_L32 (iI (q : Nat)) (fun d => ∃ n71, wp_L_refusal_L71 (iI (q : Nat)) (fun d => wpK_X10_property (5 : Int32) d (fun (r112 : Int32) (u112_8 : DT) => ((r112 &&& (iI (q : Nat) ^^^ (-1 : Int32))) = 0 → (wpK_X10_property (6 : Int32) u112_8 (fun (r127 : Int32) (u127_9 : DT) => ((r127 &&& iI (q : Nat)) = 0 → (Q (0 : Int32) u127_9)) ∧ (¬ (r127 &&& iI (q : Nat)) = 0 → (Q (6 : Int32) u127_9))))) ∧ (¬ (r112 &&& (iI (q : Nat) ^^^ (-1 : Int32))) = 0 → (Q (5 : Int32) u112_8)))) Q n71 (0 : Int32) d) Q (m + 1) (iI (k : Nat)) d := by
    intro m
    induction m with
    | zero =>
      intro k hk a4
      unfold wp_L_refusal_L32
      refine sN_property (k := 0) h (by omega) ?_
      show (iI (s 0) ≤ iI (k : Nat) → _) ∧ (¬ iI (s 0) ≤ iI (k : Nat) → _)
      rw [iI_le (by omega) (by omega) (by omega) (by omega)]
      obtain rfl : k = s 0 := by omega
      exact ⟨fun _ => ⟨s 0 + 1, l71 a4 (s 0) 0 (by omega) (fun i hi => absurd hi (Nat.not_lt_zero _))⟩, fun z => absurd (Int.le_refl _) z⟩
    | succ m ih =>
      intro k hk a4
      unfold wp_L_refusal_L32
      refine sN_property (k := 0) h (by omega) ?_
      show (iI (s 0) ≤ iI (k : Nat) → _) ∧ (¬ iI (s 0) ≤ iI (k : Nat) → _)
      rw [iI_le (by omega) (by omega) (by omega) (by omega), bit1 (by omega) (by omega), iI_succ]
      have hk4 := (hW.2.2.2.2.2.2 k (by omega)).2.2.2.1
      have st : (q.testBit k = true → s (6 + 5 * k + 3) &&& q = 0) → ∀ i, i < k + 1 → q.testBit i = true → s (6 + 5 * i + 3) &&& q = 0 := by
        intro z i hi hb
        by_cases e : i = k
        · subst e; exact z hb
        · exact a4 i (by omega) hb
      refine ⟨fun z => by omega, fun _ => ⟨fun c => ih (k + 1) (by omega) (st fun z => absurd z c), fun c => sN_item (w := 3) h (by omega) (by omega) ?_⟩⟩
      rw [iI_and, iI0 (Nat.lt_of_le_of_lt Nat.and_le_left (by omega))]
      refine ⟨fun e => ih (k + 1) (by omega) (st fun _ => e), fun e => ?_⟩
      rw [if_pos (fun z => e (ors_and.mp z k (by omega) c))] at hQ
      exact hQ
  exact ⟨s 0 + 1, l32 (s 0) 0 (by omega) (fun i hi => absurd hi (Nat.not_lt_zero _))⟩
end
