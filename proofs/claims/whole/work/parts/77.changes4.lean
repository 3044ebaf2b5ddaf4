/-! CHANGES: the reference's setItem, bar, need; slots and undo on both sides -/
theorem sr_setItem {s : Nat → Nat} (hW : WF s) {ps : List (Nat → Nat)} (hl : ps.length ≤ 8) (hw : ∀ t ∈ ps, WF t) {p1 : Int32} {p2 : Int32} {p3 : Int32} {t_thrown : Int32} {t_remembered : Int32} {t_net : Nat → Int32} {t_past : Nat → Int32} {Q : Int32 → Int32 → Int32 → (Nat → Int32) → (Nat → Int32) → Prop} (hP : prP ps t_remembered t_past) (hN : neP s t_net) (hQ : 0 ≤ p1.toInt ∧ p1.toInt < s 0 → (0 ≤ p2.toInt ∧ p2.toInt ≤ 2) ∧ vl9 p3 → ∀ rem past net, prP (pshL ps s) rem past → neP (su s (6 + 5 * p1.toInt.toNat + p2.toInt.toNat) p3.toInt.toNat) net → Q (iI (s (6 + 5 * p1.toInt.toNat + p2.toInt.toNat))) 0 rem net past)
    (hX : ∀ c : Int32, (¬ (0 ≤ p1.toInt ∧ p1.toInt < s 0) ∧ c = 1) ∨ ((0 ≤ p1.toInt ∧ p1.toInt < s 0) ∧ ¬ ((0 ≤ p2.toInt ∧ p2.toInt ≤ 2) ∧ vl9 p3) ∧ c = 2) → Q 0 c t_remembered t_net t_past) : wp_X11_setItem p1 p2 p3 t_thrown t_remembered t_net t_past Q := by
  have h12 := hW.1
  have good : 0 ≤ p1.toInt ∧ p1.toInt < s 0 → (0 ≤ p2.toInt ∧ p2.toInt ≤ 2) ∧ vl9 p3 → wp_X11_remember t_remembered t_past t_net (fun (u44_6 : Int32) (u44_7 : Nat → Int32) => wp_X11_ofItem p1 p2 t_net (fun (r50 : Int32) => wp_X11_put p1 p2 p3 t_net (fun (u59_8 : Nat → Int32) => Q r50 0 u44_6 u59_8 u44_7))) := fun a b => by
    have ans := hQ a b
    have e1 := i_nat a.1
    have e2 := i_nat b.1.1
    have e3 := i_nat b.2.1
    refine sr_remember hW hl hw hP hN fun rem past h1 => ?_
    rw [e1, e2, e3]
    refine sp_ofItem hW hN (by omega) (by omega) (sp_put11 (by omega) (by omega) ?_)
    exact ans _ _ _ h1 (neP_row hN (by omega))
  unfold wp_X11_setItem
  refine sp_isItem hW hN (sp_in0 (k := 2) (by decide) ?_)
  by_cases b : 0 ≤ p2.toInt ∧ p2.toInt ≤ 2
  · rw [if_pos b]
    refine ⟨fun z => absurd z (by decide), fun _ => sp_in0 (k := 99) (by decide) ?_⟩
    by_cases c : 0 ≤ p3.toInt ∧ p3.toInt ≤ 99
    · rw [if_pos c]
      refine ⟨fun z => absurd z (by decide), fun _ => sp_passes2 (b := True) ?_⟩
      by_cases a : 0 ≤ p1.toInt ∧ p1.toInt < (s 0 : Int)
      · rw [if_pos a, if_pos trivial]
        exact ⟨fun _ => good a ⟨b, c⟩, fun z => absurd z (by decide)⟩
      · rw [if_neg a]
        exact ⟨fun z => absurd rfl z, fun _ => hX 1 (Or.inl ⟨a, rfl⟩)⟩
    · rw [if_neg c]
      refine ⟨fun _ => sp_passes2 (b := False) ?_, fun z => absurd rfl z⟩
      by_cases a : 0 ≤ p1.toInt ∧ p1.toInt < (s 0 : Int)
      · rw [if_pos a, if_neg id]
        exact ⟨fun z => absurd rfl z, fun _ => hX 2 (Or.inr ⟨a, fun z => c z.2, rfl⟩)⟩
      · rw [if_neg a]
        exact ⟨fun z => absurd rfl z, fun _ => hX 1 (Or.inl ⟨a, rfl⟩)⟩
  · rw [if_neg b]
    refine ⟨fun _ => sp_passes2 (b := False) ?_, fun z => absurd rfl z⟩
    by_cases a : 0 ≤ p1.toInt ∧ p1.toInt < (s 0 : Int)
    · rw [if_pos a, if_neg id]
      exact ⟨fun z => absurd rfl z, fun _ => hX 2 (Or.inr ⟨a, fun z => b z.1, rfl⟩)⟩
    · rw [if_neg a]
      exact ⟨fun z => absurd rfl z, fun _ => hX 1 (Or.inl ⟨a, rfl⟩)⟩
/-- the test of a pair of items: passes, or the code -/
theorem sp_arePair {s : Nat → Nat} (hW : WF s) {row : Nat → Int32} (hN : neP s row) {p q th : Int32} {Q : Int32 → Int32 → Prop} (h1 : 0 ≤ p.toInt ∧ p.toInt < s 0 → 0 ≤ q.toInt ∧ q.toInt < s 0 → p ≠ q → Q 1 0) (h2 : ∀ c : Int32, (¬ ((0 ≤ p.toInt ∧ p.toInt < s 0) ∧ (0 ≤ q.toInt ∧ q.toInt < s 0)) ∧ c = 1) ∨ ((0 ≤ p.toInt ∧ p.toInt < s 0) ∧ (0 ≤ q.toInt ∧ q.toInt < s 0) ∧ p = q ∧ c = 2) → Q 0 c) : wp_X11_arePair p q th row Q := by
  have n1 : nzR .boolean 1 := rfl
  have n0 : nzR .boolean 0 := rfl
  unfold wp_X11_arePair
  refine sp_isItem hW hN ?_
  by_cases a : 0 ≤ p.toInt ∧ p.toInt < (s 0 : Int)
  · rw [if_pos a]
    refine ⟨fun z => absurd z (by decide), fun _ => sp_isItem hW hN ?_⟩
    by_cases b : 0 ≤ q.toInt ∧ q.toInt < (s 0 : Int)
    · rw [if_pos b]
      refine ⟨fun z => absurd z (by decide), fun _ => ⟨fun c => ?_, fun c => ?_⟩⟩
      · exact sp_passes2 (a := True) (b := False) ⟨n0, h2 2 (Or.inr ⟨a, b, c, rfl⟩)⟩
      · exact sp_passes2 (a := True) (b := True) ⟨n1, h1 a b c⟩
    · rw [if_neg b]
      have z := h2 1 (Or.inl ⟨fun y => b y.2, rfl⟩)
      refine ⟨fun _ => ⟨fun c => ?_, fun c => ?_⟩, fun y => absurd rfl y⟩
      · exact sp_passes2 (a := False) (b := False) ⟨n0, z⟩
      · exact sp_passes2 (a := False) (b := True) ⟨n0, z⟩
  · rw [if_neg a]
    have z := h2 1 (Or.inl ⟨fun y => a y.1, rfl⟩)
    refine ⟨fun _ => ⟨fun c => ?_, fun c => ?_⟩, fun y => absurd rfl y⟩
    · exact sp_passes2 (a := False) (b := False) ⟨n0, z⟩
    · exact sp_passes2 (a := False) (b := True) ⟨n0, z⟩
theorem sr_bar {s : Nat → Nat} (hW : WF s) {ps : List (Nat → Nat)} (hl : ps.length ≤ 8) (hw : ∀ t ∈ ps, WF t) {p1 : Int32} {p2 : Int32} {p3 : Int32} {t_thrown : Int32} {t_remembered : Int32} {t_net : Nat → Int32} {t_past : Nat → Int32} {Q : Int32 → Int32 → Int32 → (Nat → Int32) → (Nat → Int32) → Prop} {on : Bool} (hon : p3 = if on = true then 1 else 0) (hP : prP ps t_remembered t_past) (hN : neP s t_net) (hQ : 0 ≤ p1.toInt ∧ p1.toInt < s 0 → 0 ≤ p2.toInt ∧ p2.toInt < s 0 → p1 ≠ p2 → ∀ rem past net, prP (pshL ps s) rem past → neP (barS s p1.toInt.toNat p2.toInt.toNat on) net → Q (if (s (6 + 5 * p1.toInt.toNat + 3)).testBit p2.toInt.toNat then 1 else 0) 0 rem net past)
    (hX : ∀ c : Int32, (¬ ((0 ≤ p1.toInt ∧ p1.toInt < s 0) ∧ (0 ≤ p2.toInt ∧ p2.toInt < s 0)) ∧ c = 1) ∨ ((0 ≤ p1.toInt ∧ p1.toInt < s 0) ∧ (0 ≤ p2.toInt ∧ p2.toInt < s 0) ∧ p1 = p2 ∧ c = 2) → Q 0 c t_remembered t_net t_past) : wp_X11_bar p1 p2 p3 t_thrown t_remembered t_net t_past Q := by
  have h12 := hW.1
  have hp := wf_pow hW
  unfold wp_X11_bar
  refine sp_arePair hW hN (fun a b c => ⟨fun _ => ?_, fun z => absurd z (by decide)⟩) (fun c hc => ⟨fun z => absurd rfl z, fun _ => hX c hc⟩)
  refine sr_remember hW hl hw hP hN fun rem past h => ?_
  obtain ⟨i, hi⟩ : ∃ k : Nat, p1.toInt = k := ⟨p1.toInt.toNat, by omega⟩
  obtain ⟨j, hj⟩ : ∃ k : Nat, p2.toInt = k := ⟨p2.toInt.toNat, by omega⟩
  have hij : i ≠ j := fun z => c (by rw [iI_of p1, iI_of p2, hi, hj, z])
  have ans := hQ a b c rem past
  have e1 : p1 = iI (i : Nat) := by rw [iI_of p1, hi]
  have e2 : p2 = iI (j : Nat) := by rw [iI_of p2, hj]
  rw [hi, hj, Int.toNat_natCast, Int.toNat_natCast] at ans
  have w3 := (hW.2.2.2.2.2.2 i (by omega)).2.2.2.1
  have w3j := (hW.2.2.2.2.2.2 j (by omega)).2.2.2.1
  subst e1
  subst e2
  have r1 := neP_row hN (k := i) (w := 3) (v := tb (s (6 + 5 * i + 3)) j on) (by omega)
  have r2 := neP_row r1 (k := j) (w := 3) (v := tb (s (6 + 5 * j + 3)) i on) (by omega)
  rw [iI_lit 3]
  refine sp_ofItem hW hN (by omega) (by omega) (sp_has (by omega) (by omega) (sp_ofItem hW hN (by omega) (by omega) (sp_turned (by omega) (by omega) hon (sp_put11 (by omega) (by omega) (sp_ofItemR (by omega) (by omega) ?_)))))
  rw [pk_un (by omega), hN.2 j 3 (by omega) (by omega)]
  exact sp_turned (by omega) (by omega) hon (sp_put11 (by omega) (by omega) ⟨nz01 _, ans _ h r2⟩)
theorem sr_need {s : Nat → Nat} (hW : WF s) {ps : List (Nat → Nat)} (hl : ps.length ≤ 8) (hw : ∀ t ∈ ps, WF t) {p1 : Int32} {p2 : Int32} {p3 : Int32} {t_thrown : Int32} {t_remembered : Int32} {t_net : Nat → Int32} {t_past : Nat → Int32} {Q : Int32 → Int32 → Int32 → (Nat → Int32) → (Nat → Int32) → Prop} {on : Bool} (hon : p3 = if on = true then 1 else 0) (hP : prP ps t_remembered t_past) (hN : neP s t_net) (hQ : 0 ≤ p1.toInt ∧ p1.toInt < s 0 → 0 ≤ p2.toInt ∧ p2.toInt < s 0 → p1 ≠ p2 → ∀ rem past net, prP (pshL ps s) rem past → neP (needS s p1.toInt.toNat p2.toInt.toNat on) net → Q (if (s (6 + 5 * p1.toInt.toNat + 4)).testBit p2.toInt.toNat then 1 else 0) 0 rem net past)
    (hX : ∀ c : Int32, (¬ ((0 ≤ p1.toInt ∧ p1.toInt < s 0) ∧ (0 ≤ p2.toInt ∧ p2.toInt < s 0)) ∧ c = 1) ∨ ((0 ≤ p1.toInt ∧ p1.toInt < s 0) ∧ (0 ≤ p2.toInt ∧ p2.toInt < s 0) ∧ p1 = p2 ∧ c = 2) → Q 0 c t_remembered t_net t_past) : wp_X11_need p1 p2 p3 t_thrown t_remembered t_net t_past Q := by
  have h12 := hW.1
  have hp := wf_pow hW
  unfold wp_X11_need
  refine sp_arePair hW hN (fun a b c => ⟨fun _ => ?_, fun z => absurd z (by decide)⟩) (fun c hc => ⟨fun z => absurd rfl z, fun _ => hX c hc⟩)
  refine sr_remember hW hl hw hP hN fun rem past h => ?_
  obtain ⟨i, hi⟩ : ∃ k : Nat, p1.toInt = k := ⟨p1.toInt.toNat, by omega⟩
  obtain ⟨j, hj⟩ : ∃ k : Nat, p2.toInt = k := ⟨p2.toInt.toNat, by omega⟩
  have ans := hQ a b c rem past
  have e1 : p1 = iI (i : Nat) := by rw [iI_of p1, hi]
  have e2 : p2 = iI (j : Nat) := by rw [iI_of p2, hj]
  rw [hi, hj, Int.toNat_natCast, Int.toNat_natCast] at ans
  have w4 := (hW.2.2.2.2.2.2 i (by omega)).2.2.2.2
  subst e1
  subst e2
  rw [iI_lit 4]
  refine sp_ofItem hW hN (by omega) (by omega) (sp_has (by omega) (by omega) (sp_ofItem hW hN (by omega) (by omega) (sp_turned (by omega) (by omega) hon (sp_put11 (by omega) (by omega) ⟨nz01 _, ans _ h (neP_row hN (by omega))⟩))))
/-! slots: what the two places hold, if anything -/
/-- the class's -/
def slC (K : Nat → Option (Nat → Nat)) (used : Nat → Int32) (pi : Nat → Nat → Int32) (pr : Nat → Nat → Nat → Int32) : Prop := ∀ k, k < 2 → (K k = none → used k = 0) ∧ ∀ t, K k = some t → used k = 1 ∧ SU t (pi k) (pr k)
/-- the reference's -/
def slR (K : Nat → Option (Nat → Nat)) (used : Nat → Int32) (slots : Nat → Int32) : Prop := ∀ k, k < 2 → (K k = none → used k = 0) ∧ ∀ t, K k = some t → used k = 1 ∧ neP t (fun i => slots (66 * k + i))
def kpS (K : Nat → Option (Nat → Nat)) (k : Nat) (s : Nat → Nat) : Nat → Option (Nat → Nat) := fun i => if i = k then some s else K i
abbrev isl2 (p : Int32) : Prop := 0 ≤ p.toInt ∧ p.toInt < 2
theorem sp_reqSlot {p : Int32} {Q : Prop} {QX : String → Prop} (h1 : isl2 p → Q) (h2 : ¬ isl2 p → QX "java/lang/IndexOutOfBoundsException") : wp_X10_requireSlot p Q QX := by
  unfold wp_X10_requireSlot
  have e : (2 : Int32).toInt = 2 := by decide
  rw [i_lt0, i_lt, e]
  exact ⟨fun c => h2 (by unfold isl2; omega), fun c => ⟨fun d => h1 ⟨by omega, d⟩, fun d => h2 (by unfold isl2; omega)⟩⟩
theorem sq_keep {s : Nat → Nat} (hW : WF s) {K : Nat → Option (Nat → Nat)} {p1 : Int32} {t_now_items : Int32} {t_now_capacity : Int32} {t_now_limit : Int32} {t_now_mustSet : Int32} {t_now_neverSet : Int32} {t_now_hand : Int32} {t_now_weight : Nat → Int32} {t_now_gain : Nat → Int32} {t_now_joy : Nat → Int32} {t_now_bars : Nat → Int32} {t_now_needs : Nat → Int32} {t_slotUsed : Nat → Int32} {t_slots_pi : Nat → Nat → Int32} {t_slots_pr : Nat → Nat → Nat → Int32} {Q : Int32 → (Nat → Int32) → (Nat → Nat → Int32) → (Nat → Nat → Nat → Int32) → Prop} {QX : String → (Nat → Int32) → (Nat → Nat → Int32) → (Nat → Nat → Nat → Int32) → Prop} (hK : slC K t_slotUsed t_slots_pi t_slots_pr) (hS : suP s t_now_items t_now_capacity t_now_limit t_now_mustSet t_now_neverSet t_now_hand t_now_weight t_now_gain t_now_joy t_now_bars t_now_needs) (hQ : isl2 p1 → ∀ used pi pr, slC (kpS K p1.toInt.toNat s) used pi pr → Q (iI (s 0)) used pi pr) (hX : ¬ isl2 p1 → QX "java/lang/IndexOutOfBoundsException" t_slotUsed t_slots_pi t_slots_pr) : wp_X10_keep p1 t_now_items t_now_capacity t_now_limit t_now_mustSet t_now_neverSet t_now_hand t_now_weight t_now_gain t_now_joy t_now_bars t_now_needs t_slotUsed t_slots_pi t_slots_pr Q QX := by
  unfold wp_X10_keep
  refine sp_reqSlot (fun a => ?_) hX
  obtain ⟨k, hk⟩ : ∃ k : Nat, p1.toInt = k := ⟨p1.toInt.toNat, by have := a.1; omega⟩
  have hk2 : k < 2 := by have := a.2; omega
  have ans := hQ a
  have e1 : p1 = iI (k : Nat) := by rw [iI_of p1, hk]
  rw [hk, Int.toNat_natCast] at ans
  subst e1
  refine ⟨k, hk2, (iI_nI _).symm, sp_copyFrom hW hS fun items cap lim mus nev hand w g j b n h => ⟨in_lit hk2 (by omega), ?_⟩⟩
  rw [iI_clN (by omega), hS.1]
  refine ans _ _ _ fun i hi => ?_
  unfold kpS
  by_cases c : i = k
  · subst c
    rw [if_pos rfl, famU_eq, famU_eq, pk_us]
    refine ⟨fun z => (Option.some_ne_none _ z).elim, fun t ht => ?_⟩
    obtain rfl := Option.some.inj ht
    exact ⟨by decide, h⟩
  · rw [if_neg c, famU_ne c, famU_ne c, pk_un c]
    exact hK i hi
theorem sp_isSlot {p : Int32} {Q : Int32 → Prop} (hQ : Q (if isl2 p then 1 else 0)) : wp_X11_isSlot p Q := by
  unfold wp_X11_isSlot
  refine sp_in0 (k := 1) (by decide) ?_
  have e : (0 ≤ p.toInt ∧ p.toInt ≤ 1) = isl2 p := propext (by unfold isl2; omega)
  by_cases c : isl2 p
  · rw [if_pos c] at hQ
    rw [if_pos (by rw [e]; exact c)]
    exact ⟨rfl, hQ⟩
  · rw [if_neg c] at hQ
    rw [if_neg (by rw [e]; exact c)]
    exact ⟨rfl, hQ⟩
theorem sl_keep15 {t_net : Nat → Int32} {x1 : Int32} {t_thrown : Int32} {t_isKept : Nat → Int32} {k44 : (Nat → Int32) → Prop} {Q : Int32 → Int32 → (Nat → Int32) → (Nat → Int32) → Prop} {r : Nat} (hr : r < 2) (h1 : x1 = iI (r : Nat)) {f : Nat → Int32} (hk : k44 (c66 t_net f r 66)) : ∀ (d x : Nat), x + d = 66 → wp_X11_keep_L15 t_net x1 t_thrown t_isKept k44 Q (d + 1) (iI (x : Nat)) (c66 t_net f r x) := by
  subst h1
  intro d
  induction d with
  | zero =>
    intro x hx
    unfold wp_X11_keep_L15
    obtain rfl : x = 66 := by omega
    exact ⟨fun _ => hk, fun z => absurd (by decide) z⟩
  | succ d ih =>
    intro x hx
    have nx := ih (x + 1) (by omega)
    unfold wp_X11_keep_L15
    have e : (66 : Int32) * iI (r : Nat) + iI (x : Nat) = iI ((66 * r + x : Nat) : Int) := by rw [iI_lit 66, iI_mul, iI_add]; congr 1
    rw [e, iI_lit 66, iI_le (by omega) (by omega) (by omega) (by omega), iI_succ, iI_clN (z := 66 * r + x) (by omega), iI_clN (z := x) (by omega), c66_s]
    exact ⟨fun z => absurd z (by omega), fun _ => ⟨in_lit (by omega) (by omega), in_lit (by omega) (by omega), nx⟩⟩
theorem neP_c66 {s : Nat → Nat} (hW : s 0 ≤ 12) {net f : Nat → Int32} (hN : neP s net) (r : Nat) : neP s (fun i => c66 net f r 66 (66 * r + i)) := by
  have e : ∀ i, i < 66 → c66 net f r 66 (66 * r + i) = net i := fun i hi => by unfold c66; rw [if_pos (by omega), show 66 * r + i - 66 * r = i by omega]
  refine ⟨fun i hi => ?_, fun i w hi hw => ?_⟩
  · show c66 net f r 66 (66 * r + i) = _
    rw [e i (by omega)]; exact hN.1 i hi
  · show c66 net f r 66 (66 * r + (6 + 5 * i + w)) = _
    rw [e _ (by omega)]; exact hN.2 i w hi hw
theorem neP_c66o {t : Nat → Nat} (hW : t 0 ≤ 12) {net f : Nat → Int32} {r i : Nat} (hi : i ≠ r) (h : neP t (fun x => f (66 * i + x))) : neP t (fun x => c66 net f r 66 (66 * i + x)) := by
  have e : ∀ x, x < 66 → c66 net f r 66 (66 * i + x) = f (66 * i + x) := fun x hx => by unfold c66; rw [if_neg (by omega)]
  refine ⟨fun x hx => ?_, fun x w hx hw => ?_⟩
  · show c66 net f r 66 (66 * i + x) = _
    rw [e x (by omega)]; exact h.1 x hx
  · show c66 net f r 66 (66 * i + (6 + 5 * x + w)) = _
    rw [e _ (by omega)]; exact h.2 x w hx hw
theorem sr_keep {s : Nat → Nat} (hW : WF s) {K : Nat → Option (Nat → Nat)} (hKW : ∀ k t, K k = some t → WF t) {p1 : Int32} {t_thrown : Int32} {t_net : Nat → Int32} {t_slots : Nat → Int32} {t_isKept : Nat → Int32} {Q : Int32 → Int32 → (Nat → Int32) → (Nat → Int32) → Prop} (hK : slR K t_isKept t_slots) (hN : neP s t_net) (hQ : isl2 p1 → ∀ used slots, slR (kpS K p1.toInt.toNat s) used slots → Q (iI (s 0)) 0 slots used) (hX : ¬ isl2 p1 → Q 0 1 t_slots t_isKept) : wp_X11_keep p1 t_thrown t_net t_slots t_isKept Q := by
  unfold wp_X11_keep
  refine sp_isSlot (sp_passes ?_)
  by_cases a : isl2 p1
  · rw [if_pos a]
    obtain ⟨k, hk⟩ : ∃ k : Nat, p1.toInt = k := ⟨p1.toInt.toNat, by have := a.1; omega⟩
    have hk2 : k < 2 := by have := a.2; omega
    have ans := hQ a
    have e1 : p1 = iI (k : Nat) := by rw [iI_of p1, hk]
    rw [hk, Int.toNat_natCast] at ans
    subst e1
    refine ⟨fun _ => ⟨67, ?_⟩, fun z => absurd z (by decide)⟩
    have := sl_keep15 (t_net := t_net) (x1 := iI (k : Nat)) (t_thrown := 0) (t_isKept := t_isKept) (Q := Q) (r := k) hk2 rfl (f := t_slots) (k44 := fun (t_slots : Nat → Int32) => vp_in (iI (k : Nat)) 2 ∧ (wp_X11_many t_net (fun (r52 : Int32) => Q r52 0 t_slots (upd t_isKept (iI (k : Nat)).toNatClampNeg (vp_nar .boolean 1))))) ⟨in_lit hk2 (by omega), sp_many hN (ans _ _ fun i hi => ?_)⟩ 66 0 rfl
    · rw [c66_0] at this
      rw [iI_lit 0]
      exact this
    · rw [iI_clN (by omega)]
      unfold kpS
      by_cases c : i = k
      · subst c
        rw [if_pos rfl, pk_us]
        refine ⟨fun z => (Option.some_ne_none _ z).elim, fun t ht => ?_⟩
        obtain rfl := Option.some.inj ht
        exact ⟨by decide, neP_c66 hW.1 hN i⟩
      · rw [if_neg c, pk_un c]
        obtain ⟨z1, z2⟩ := hK i hi
        exact ⟨z1, fun t ht => ⟨(z2 t ht).1, neP_c66o (hKW i t ht).1 c (z2 t ht).2⟩⟩
  · rw [if_neg a]
    exact ⟨fun z => absurd rfl z, fun _ => hX a⟩
