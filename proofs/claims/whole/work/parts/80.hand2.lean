/-! CHOOSE, TAKE, LEAVE, CHOOSE THE BEST -/
theorem sq_choose {s : Nat → Nat} (hW : WF s) {ps : List (Nat → Nat)} (hl : ps.length ≤ 8) {p1 : Int32} {t_frontierFresh : Int32} {t_now_items : Int32} {t_now_capacity : Int32} {t_now_limit : Int32} {t_now_mustSet : Int32} {t_now_neverSet : Int32} {t_now_hand : Int32} {t_choices_sets : Int32} {t_choices_limit : Int32} {t_choices_mustSet : Int32} {t_choices_neverSet : Int32} {t_choices_weight : Nat → Int32} {t_now_weight : Nat → Int32} {t_choices_gain : Nat → Int32} {t_now_gain : Nat → Int32} {t_choices_joy : Nat → Int32} {t_now_joy : Nat → Int32} {t_choices_barred : Nat → Int32} {t_now_bars : Nat → Int32} {t_choices_needed : Nat → Int32} {t_now_needs : Nat → Int32} {t_stairs_allowedCount : Int32} {t_stairs_joyAt : Nat → Int32} {t_frontier_size : Int32} {t_frontier_vertexCount : Int32} {t_frontier_allowedCount : Int32} {t_frontier_areaBelow : Int32} {t_frontier_pointAt : Nat → Int32} {t_frontier_gain : Nat → Int32} {t_frontier_joy : Nat → Int32} {t_frontier_choice : Nat → Int32} {t_frontier_times : Nat → Int32} {t_frontier_light : Nat → Int32} {t_frontier_mark : Nat → Int32} {t_frontier_vertexPoint : Nat → Int32} {t_past_count : Int32} {t_past_setups_pq : Nat → Nat → Nat} {t_past_setups_pi : Nat → Nat → Int32} {t_past_setups_pr : Nat → Nat → Nat → Int32} {Q : Int32 → Int32 → Int32 → Int32 → Int32 → Int32 → Int32 → (Nat → Int32) → (Nat → Int32) → (Nat → Int32) → (Nat → Int32) → (Nat → Int32) → Int32 → (Nat → Int32) → Int32 → Int32 → Int32 → Int32 → (Nat → Int32) → (Nat → Int32) → (Nat → Int32) → (Nat → Int32) → (Nat → Int32) → (Nat → Int32) → (Nat → Int32) → (Nat → Int32) → Int32 → (Nat → Nat → Nat) → (Nat → Nat → Int32) → (Nat → Nat → Nat → Int32) → Prop} {QX : String → Int32 → Int32 → Int32 → Int32 → Int32 → Int32 → (Nat → Int32) → (Nat → Int32) → (Nat → Int32) → (Nat → Int32) → (Nat → Int32) → Int32 → (Nat → Int32) → Int32 → Int32 → Int32 → Int32 → (Nat → Int32) → (Nat → Int32) → (Nat → Int32) → (Nat → Int32) → (Nat → Int32) → (Nat → Int32) → (Nat → Int32) → (Nat → Int32) → Int32 → (Nat → Nat → Nat) → (Nat → Nat → Int32) → (Nat → Nat → Nat → Int32) → Prop} (hP : paP ps t_past_count t_past_setups_pi t_past_setups_pr) (hS : suP s t_now_items t_now_capacity t_now_limit t_now_mustSet t_now_neverSet t_now_hand t_now_weight t_now_gain t_now_joy t_now_bars t_now_needs) (hD : dkP s t_frontierFresh t_choices_sets t_choices_limit t_choices_mustSet t_choices_neverSet t_choices_weight t_choices_gain t_choices_joy t_choices_barred t_choices_needed t_frontier_size t_frontier_vertexCount t_frontier_allowedCount t_frontier_areaBelow t_frontier_pointAt t_frontier_gain t_frontier_joy t_frontier_choice t_frontier_times t_frontier_light t_frontier_mark t_frontier_vertexPoint) (hQ : 0 ≤ p1.toInt ∧ p1.toInt < ((2 ^ s 0 : Nat) : Int) → rf s (s 1) p1.toInt.toNat = 0 → DQ (su s 5 p1.toInt.toNat) (fun ff sets lim must nev cw cg cj cb cn sac sja size vc ac area pa g j ch ti li mk vp => ∀ count pq pi pr, paP (pshL ps s) count pi pr → Q (iI (s 5)) ff p1 sets lim must nev cw cg cj cb cn sac sja size vc ac area pa g j ch ti li mk vp count pq pi pr))
    (hX : ∀ E, (¬ (0 ≤ p1.toInt ∧ p1.toInt < ((2 ^ s 0 : Nat) : Int)) ∧ E = "java/lang/IllegalArgumentException") ∨ ((0 ≤ p1.toInt ∧ p1.toInt < ((2 ^ s 0 : Nat) : Int)) ∧ rf s (s 1) p1.toInt.toNat ≠ 0 ∧ E = "java/lang/IllegalStateException") → DQ s (fun ff sets lim must nev cw cg cj cb cn sac sja size vc ac area pa g j ch ti li mk vp => QX E ff t_now_hand sets lim must nev cw cg cj cb cn sac sja size vc ac area pa g j ch ti li mk vp t_past_count t_past_setups_pq t_past_setups_pi t_past_setups_pr)) : wp_X10_choose p1 t_frontierFresh t_now_items t_now_capacity t_now_limit t_now_mustSet t_now_neverSet t_now_hand t_choices_sets t_choices_limit t_choices_mustSet t_choices_neverSet t_choices_weight t_now_weight t_choices_gain t_now_gain t_choices_joy t_now_joy t_choices_barred t_now_bars t_choices_needed t_now_needs t_stairs_allowedCount t_stairs_joyAt t_frontier_size t_frontier_vertexCount t_frontier_allowedCount t_frontier_areaBelow t_frontier_pointAt t_frontier_gain t_frontier_joy t_frontier_choice t_frontier_times t_frontier_light t_frontier_mark t_frontier_vertexPoint t_past_count t_past_setups_pq t_past_setups_pi t_past_setups_pr Q QX := by
  unfold wp_X10_choose
  refine sp_reqSet hW hS.1 (fun a => ?_) (fun a => hX _ (Or.inl ⟨a, rfl⟩) _ _ _ _ _ _ _ _ _ _ _ _ _ _ _ _ _ _ _ _ _ _ _ _ hD)
  have e1 := i_nat a.1
  refine sp_reqAllowed hW (q := p1.toInt.toNat) (by omega) e1 hS hD (fun sets lim must nev cw cg cj cb cn sac sja size vc ac area pa g j ch ti li mk vp hC hF hr => sp_takeInHand hW hl hP hS fun count pq pi pr h => ?_) (fun sets lim must nev cw cg cj cb cn sac sja size vc ac area pa g j ch ti li mk vp hC hF hr => hX _ (Or.inr ⟨a, hr, rfl⟩) 1 sets lim must nev cw cg cj cb cn sac sja size vc ac area pa g j ch ti li mk vp (dkP_1 hC hF))
  have := hQ a hr 1 sets lim must nev cw cg cj cb cn sac sja size vc ac area pa g j ch ti li mk vp (dkP_su5 (dkP_1 hC hF)) count pq pi pr h
  rw [← hS.2.2.2.2.2.1] at this
  exact this
theorem sr_choose {s : Nat → Nat} (hW : WF s) {ps : List (Nat → Nat)} (hl : ps.length ≤ 8) (hw : ∀ t ∈ ps, WF t) {p1 : Int32} {t_thrown : Int32} {t_remembered : Int32} {t_net : Nat → Int32} {t_past : Nat → Int32} {Q : Int32 → Int32 → Int32 → (Nat → Int32) → (Nat → Int32) → Prop} (hP : prP ps t_remembered t_past) (hN : neP s t_net) (hQ : 0 ≤ p1.toInt ∧ p1.toInt < ((2 ^ s 0 : Nat) : Int) → rf s (s 1) p1.toInt.toNat = 0 → ∀ rem past net, prP (pshL ps s) rem past → neP (su s 5 p1.toInt.toNat) net → Q (iI (s 5)) 0 rem net past)
    (hX : ∀ c : Int32, (¬ (0 ≤ p1.toInt ∧ p1.toInt < ((2 ^ s 0 : Nat) : Int)) ∧ c = 1) ∨ ((0 ≤ p1.toInt ∧ p1.toInt < ((2 ^ s 0 : Nat) : Int)) ∧ rf s (s 1) p1.toInt.toNat ≠ 0 ∧ c = 2) → Q 0 c t_remembered t_net t_past) : wp_X11_choose p1 t_thrown t_remembered t_net t_past Q := by
  have hp := wf_pow hW
  unfold wp_X11_choose
  refine sp_isSet hW hN ?_
  by_cases a : 0 ≤ p1.toInt ∧ p1.toInt < ((2 ^ s 0 : Nat) : Int)
  · simp only [if_pos a]
    have e1 := i_nat a.1
    refine ⟨fun z => absurd z (by decide), fun _ => ?_⟩
    have ia := fun {Q : Int32 → Prop} (hQ : Q (if rf s (s 1) p1.toInt.toNat = 0 then 1 else 0)) => sp_isAllowed hW hN (set := p1.toInt.toNat) (by omega) hQ
    rw [← e1] at ia
    refine ia ?_
    by_cases b : rf s (s 1) p1.toInt.toNat = 0
    · simp only [if_pos b]
      exact ⟨fun z => absurd z (by decide), fun _ => sp_passes2 (a := True) (b := True) ⟨fun z => absurd z (by decide), fun _ => sr_set hW hl hw hP hN (k := 5) (v := p1.toInt.toNat) (by omega) (by omega) (iI_lit 5) e1 (hQ a b)⟩⟩
    · simp only [if_neg b]
      exact ⟨fun _ => sp_passes2 (a := True) (b := False) ⟨fun _ => hX 2 (Or.inr ⟨a, b, rfl⟩), fun z => absurd rfl z⟩, fun z => (z trivial).elim⟩
  · simp only [if_neg a]
    exact ⟨fun _ => sp_passes2 (a := False) (b := False) ⟨fun _ => hX 1 (Or.inl ⟨a, rfl⟩), fun z => absurd rfl z⟩, fun z => (z trivial).elim⟩
theorem tb_same_take {v k : Nat} (hk : k < 12) : tb v k true = v ↔ v.testBit k = true := by
  unfold tb
  rw [if_pos rfl]
  constructor
  · intro h
    have := congrArg (fun z => z.testBit k) h
    simp only [Nat.testBit_or, Nat.testBit_two_pow, decide_true, Bool.or_true] at this
    exact this.symm
  · intro h
    refine Nat.eq_of_testBit_eq fun i => ?_
    rw [Nat.testBit_or, Nat.testBit_two_pow]
    by_cases e : k = i
    · subst e; rw [h]; rfl
    · rw [decide_eq_false e, Bool.or_false]
theorem bit4095 (k i : Nat) : (4095 ^^^ 2 ^ k).testBit i = (decide (i < 12) != decide (k = i)) := by
  rw [Nat.testBit_xor, Nat.testBit_two_pow, show 4095 = 2 ^ 12 - 1 from rfl, Nat.testBit_two_pow_sub_one]
theorem tb_same_leave {v k : Nat} (hv : v < 4096 ∧ k < 12) : tb v k false = v ↔ v.testBit k = false := by
  unfold tb
  rw [if_neg (by decide)]
  constructor
  · intro h
    have := congrArg (fun z => z.testBit k) h
    simp only [Nat.testBit_and, bit4095, decide_eq_true hv.2, decide_true] at this
    rw [← this]
    simp
  · intro h
    refine Nat.eq_of_testBit_eq fun i => ?_
    rw [Nat.testBit_and, bit4095]
    by_cases e : k = i
    · subst e; rw [h]; rfl
    · rw [decide_eq_false e]
      by_cases d : i < 12
      · rw [decide_eq_true d]; simp
      · have : v.testBit i = false := Nat.testBit_lt_two_pow (Nat.lt_of_lt_of_le hv.1 (show 2 ^ 12 ≤ 2 ^ i from Nat.pow_le_pow_right (by omega) (by omega)))
        rw [this]; rfl
theorem sq_take {s : Nat → Nat} (hW : WF s) {ps : List (Nat → Nat)} (hl : ps.length ≤ 8) {p1 : Int32} {t_frontierFresh : Int32} {t_now_items : Int32} {t_now_capacity : Int32} {t_now_limit : Int32} {t_now_mustSet : Int32} {t_now_neverSet : Int32} {t_now_hand : Int32} {t_choices_sets : Int32} {t_choices_limit : Int32} {t_choices_mustSet : Int32} {t_choices_neverSet : Int32} {t_choices_weight : Nat → Int32} {t_now_weight : Nat → Int32} {t_choices_gain : Nat → Int32} {t_now_gain : Nat → Int32} {t_choices_joy : Nat → Int32} {t_now_joy : Nat → Int32} {t_choices_barred : Nat → Int32} {t_now_bars : Nat → Int32} {t_choices_needed : Nat → Int32} {t_now_needs : Nat → Int32} {t_stairs_allowedCount : Int32} {t_stairs_joyAt : Nat → Int32} {t_frontier_size : Int32} {t_frontier_vertexCount : Int32} {t_frontier_allowedCount : Int32} {t_frontier_areaBelow : Int32} {t_frontier_pointAt : Nat → Int32} {t_frontier_gain : Nat → Int32} {t_frontier_joy : Nat → Int32} {t_frontier_choice : Nat → Int32} {t_frontier_times : Nat → Int32} {t_frontier_light : Nat → Int32} {t_frontier_mark : Nat → Int32} {t_frontier_vertexPoint : Nat → Int32} {t_past_count : Int32} {t_past_setups_pq : Nat → Nat → Nat} {t_past_setups_pi : Nat → Nat → Int32} {t_past_setups_pr : Nat → Nat → Nat → Int32} {Q : Int32 → Int32 → Int32 → Int32 → Int32 → Int32 → Int32 → (Nat → Int32) → (Nat → Int32) → (Nat → Int32) → (Nat → Int32) → (Nat → Int32) → Int32 → (Nat → Int32) → Int32 → Int32 → Int32 → Int32 → (Nat → Int32) → (Nat → Int32) → (Nat → Int32) → (Nat → Int32) → (Nat → Int32) → (Nat → Int32) → (Nat → Int32) → (Nat → Int32) → Int32 → (Nat → Nat → Nat) → (Nat → Nat → Int32) → (Nat → Nat → Nat → Int32) → Prop} {QX : String → Int32 → Int32 → Int32 → Int32 → Int32 → Int32 → (Nat → Int32) → (Nat → Int32) → (Nat → Int32) → (Nat → Int32) → (Nat → Int32) → Int32 → (Nat → Int32) → Int32 → Int32 → Int32 → Int32 → (Nat → Int32) → (Nat → Int32) → (Nat → Int32) → (Nat → Int32) → (Nat → Int32) → (Nat → Int32) → (Nat → Int32) → (Nat → Int32) → Int32 → (Nat → Nat → Nat) → (Nat → Nat → Int32) → (Nat → Nat → Nat → Int32) → Prop} (hP : paP ps t_past_count t_past_setups_pi t_past_setups_pr) (hS : suP s t_now_items t_now_capacity t_now_limit t_now_mustSet t_now_neverSet t_now_hand t_now_weight t_now_gain t_now_joy t_now_bars t_now_needs) (hD : dkP s t_frontierFresh t_choices_sets t_choices_limit t_choices_mustSet t_choices_neverSet t_choices_weight t_choices_gain t_choices_joy t_choices_barred t_choices_needed t_frontier_size t_frontier_vertexCount t_frontier_allowedCount t_frontier_areaBelow t_frontier_pointAt t_frontier_gain t_frontier_joy t_frontier_choice t_frontier_times t_frontier_light t_frontier_mark t_frontier_vertexPoint) (hQ : 0 ≤ p1.toInt ∧ p1.toInt < s 0 → ¬ ((s 5).testBit p1.toInt.toNat = true) → rf s (s 1) (tb (s 5) p1.toInt.toNat true) = 0 → DQ (su s 5 (tb (s 5) p1.toInt.toNat true)) (fun ff sets lim must nev cw cg cj cb cn sac sja size vc ac area pa g j ch ti li mk vp => ∀ count pq pi pr, paP (pshL ps s) count pi pr → Q (iI (sm s 0 (tb (s 5) p1.toInt.toNat true) (s 0) : Nat)) ff (iI ((tb (s 5) p1.toInt.toNat true : Nat) : Int)) sets lim must nev cw cg cj cb cn sac sja size vc ac area pa g j ch ti li mk vp count pq pi pr))
    (hX : ∀ E, (¬ (0 ≤ p1.toInt ∧ p1.toInt < s 0) ∧ E = "java/lang/IndexOutOfBoundsException") ∨ ((0 ≤ p1.toInt ∧ p1.toInt < s 0) ∧ (((s 5).testBit p1.toInt.toNat = true) ∨ rf s (s 1) (tb (s 5) p1.toInt.toNat true) ≠ 0) ∧ E = "java/lang/IllegalStateException") → DQ s (fun ff sets lim must nev cw cg cj cb cn sac sja size vc ac area pa g j ch ti li mk vp => QX E ff t_now_hand sets lim must nev cw cg cj cb cn sac sja size vc ac area pa g j ch ti li mk vp t_past_count t_past_setups_pq t_past_setups_pi t_past_setups_pr)) : wp_X10_take p1 t_frontierFresh t_now_items t_now_capacity t_now_limit t_now_mustSet t_now_neverSet t_now_hand t_choices_sets t_choices_limit t_choices_mustSet t_choices_neverSet t_choices_weight t_now_weight t_choices_gain t_now_gain t_choices_joy t_now_joy t_choices_barred t_now_bars t_choices_needed t_now_needs t_stairs_allowedCount t_stairs_joyAt t_frontier_size t_frontier_vertexCount t_frontier_allowedCount t_frontier_areaBelow t_frontier_pointAt t_frontier_gain t_frontier_joy t_frontier_choice t_frontier_times t_frontier_light t_frontier_mark t_frontier_vertexPoint t_past_count t_past_setups_pq t_past_setups_pi t_past_setups_pr Q QX := by
  have h12 := hW.1
  have hp := wf_pow hW
  have h5 := hW.2.2.2.2.2.1
  unfold wp_X10_take
  refine sp_reqItem hW hS.1 (fun a => ?_) (fun a => hX _ (Or.inl ⟨a, rfl⟩) _ _ _ _ _ _ _ _ _ _ _ _ _ _ _ _ _ _ _ _ _ _ _ _ hD)
  obtain ⟨k, hk⟩ : ∃ k : Nat, p1.toInt = k := ⟨p1.toInt.toNat, by omega⟩
  have ans := hQ a
  have bad := fun z => hX "java/lang/IllegalStateException" (Or.inr ⟨a, z, rfl⟩)
  have e1 : p1 = iI (k : Nat) := by rw [iI_of p1, hk]
  rw [hk, Int.toNat_natCast] at ans bad
  subst e1
  have hv : tb (s 5) k true < 2 ^ s 0 := tb_lt h5 (by omega)
  have eh := hS.2.2.2.2.2.1
  subst eh
  refine sp_hasBit (by omega) (by omega) ?_
  by_cases c : (s 5).testBit k = true
  · rw [if_pos c]
    exact ⟨fun z => absurd z (by decide), fun _ => bad (Or.inl c) _ _ _ _ _ _ _ _ _ _ _ _ _ _ _ _ _ _ _ _ _ _ _ _ hD⟩
  · rw [if_neg c]
    refine ⟨fun _ => sp_withBit (on := true) (by omega) (by omega) (by decide) (sp_reqAllowed hW (q := tb (s 5) k true) hv rfl hS hD (fun sets lim must nev cw cg cj cb cn sac sja size vc ac area pa g j ch ti li mk vp hC hF hr => sp_takeInHand hW hl hP hS fun count pq pi pr h => ⟨in_lit (by omega) (by omega), ?_⟩) (fun sets lim must nev cw cg cj cb cn sac sja size vc ac area pa g j ch ti li mk vp hC hF hr => bad (Or.inr hr) 1 sets lim must nev cw cg cj cb cn sac sja size vc ac area pa g j ch ti li mk vp (dkP_1 hC hF))), fun z => absurd rfl z⟩
    rw [iI_clN (by omega), hC.2.2.2.2.1 _ hv]
    exact ans c hr 1 sets lim must nev cw cg cj cb cn sac sja size vc ac area pa g j ch ti li mk vp (dkP_su5 (dkP_1 hC hF)) count pq pi pr h
theorem sr_take {s : Nat → Nat} (hW : WF s) {ps : List (Nat → Nat)} (hl : ps.length ≤ 8) (hw : ∀ t ∈ ps, WF t) {p1 : Int32} {t_thrown : Int32} {t_remembered : Int32} {t_net : Nat → Int32} {t_past : Nat → Int32} {Q : Int32 → Int32 → Int32 → (Nat → Int32) → (Nat → Int32) → Prop} (hP : prP ps t_remembered t_past) (hN : neP s t_net) (hQ : 0 ≤ p1.toInt ∧ p1.toInt < s 0 → ¬ ((s 5).testBit p1.toInt.toNat = true) → rf s (s 1) (tb (s 5) p1.toInt.toNat true) = 0 → ∀ rem past net, prP (pshL ps s) rem past → neP (su s 5 (tb (s 5) p1.toInt.toNat true)) net → Q (iI (sm s 0 (tb (s 5) p1.toInt.toNat true) (s 0) : Nat)) 0 rem net past)
    (hX : ∀ c : Int32, (¬ (0 ≤ p1.toInt ∧ p1.toInt < s 0) ∧ c = 1) ∨ ((0 ≤ p1.toInt ∧ p1.toInt < s 0) ∧ (((s 5).testBit p1.toInt.toNat = true) ∨ rf s (s 1) (tb (s 5) p1.toInt.toNat true) ≠ 0) ∧ c = 2) → Q 0 c t_remembered t_net t_past) : wp_X11_take p1 t_thrown t_remembered t_net t_past Q := by
  have h12 := hW.1
  have hp := wf_pow hW
  have h5 := hW.2.2.2.2.2.1
  have e5 : (5 : Int32).toNatClampNeg = 5 := by decide
  have i5 : vp_in 5 66 := by rw [vp_in_iff]; decide
  unfold wp_X11_take
  refine sp_isItem hW hN ?_
  by_cases a : 0 ≤ p1.toInt ∧ p1.toInt < (s 0 : Int)
  · simp only [if_pos a]
    obtain ⟨k, hk⟩ : ∃ k : Nat, p1.toInt = k := ⟨p1.toInt.toNat, by omega⟩
    have ans := hQ a
    have bad := fun z => hX 2 (Or.inr ⟨a, z, rfl⟩)
    have e1 : p1 = iI (k : Nat) := by rw [iI_of p1, hk]
    rw [hk, Int.toNat_natCast] at ans bad
    subst e1
    have hv : tb (s 5) k true < 2 ^ s 0 := tb_lt h5 (by omega)
    refine ⟨fun z => absurd z (by decide), fun _ => ⟨i5, fun v24 hv24 => ?_⟩⟩
    rw [e5, hN.1 5 (by omega), iI_shl1 k (by omega), iI_or] at hv24
    obtain rfl : v24 = iI ((tb (s 5) k true : Nat) : Int) := hv24
    refine ⟨fun z => absurd z (by decide), fun _ => ⟨i5, ?_⟩⟩
    rw [e5, hN.1 5 (by omega), iI_inj4 (by omega) (by omega), tb_same_take (by omega)]
    refine ⟨fun c => sp_passes2 (a := True) (b := False) ⟨fun _ => bad (Or.inl c), fun z => absurd rfl z⟩, fun c => sp_isAllowed hW hN hv ?_⟩
    by_cases b : rf s (s 1) (tb (s 5) k true) = 0
    · simp only [if_pos b]
      refine ⟨fun z => absurd z (by decide), fun _ => sp_passes2 (a := True) (b := True) ⟨fun z => absurd z (by decide), fun _ => ?_⟩⟩
      unfold wp_X11_becomes
      refine sr_remember hW hl hw hP hN fun rem past h => ⟨i5, ?_⟩
      rw [e5, iI_lit 0]
      have hN2 : neP (su s 5 (tb (s 5) k true)) (upd t_net 5 (iI ((tb (s 5) k true : Nat) : Int))) := neP_su hN (by omega) (by omega) rfl
      refine sp_sumOf (w := 0) (WF_c hW (k := 5) (v := tb (s 5) k true) (by omega)) hN2 (by omega) (by omega) ?_
      rw [su_ne (show (0 : Nat) ≠ 5 by omega), sm_su (by omega), ← iI_lit 0]
      exact ans c b rem past _ h hN2
    · simp only [if_neg b]
      exact ⟨fun _ => sp_passes2 (a := True) (b := False) ⟨fun _ => bad (Or.inr b), fun z => absurd rfl z⟩, fun z => (z trivial).elim⟩
  · simp only [if_neg a]
    exact ⟨fun _ => ⟨fun _ => sp_passes2 (a := False) (b := False) ⟨fun _ => hX 1 (Or.inl ⟨a, rfl⟩), fun z => absurd rfl z⟩, fun z => (z trivial).elim⟩, fun z => (z trivial).elim⟩
theorem sq_leave {s : Nat → Nat} (hW : WF s) {ps : List (Nat → Nat)} (hl : ps.length ≤ 8) {p1 : Int32} {t_frontierFresh : Int32} {t_now_items : Int32} {t_now_capacity : Int32} {t_now_limit : Int32} {t_now_mustSet : Int32} {t_now_neverSet : Int32} {t_now_hand : Int32} {t_choices_sets : Int32} {t_choices_limit : Int32} {t_choices_mustSet : Int32} {t_choices_neverSet : Int32} {t_choices_weight : Nat → Int32} {t_now_weight : Nat → Int32} {t_choices_gain : Nat → Int32} {t_now_gain : Nat → Int32} {t_choices_joy : Nat → Int32} {t_now_joy : Nat → Int32} {t_choices_barred : Nat → Int32} {t_now_bars : Nat → Int32} {t_choices_needed : Nat → Int32} {t_now_needs : Nat → Int32} {t_stairs_allowedCount : Int32} {t_stairs_joyAt : Nat → Int32} {t_frontier_size : Int32} {t_frontier_vertexCount : Int32} {t_frontier_allowedCount : Int32} {t_frontier_areaBelow : Int32} {t_frontier_pointAt : Nat → Int32} {t_frontier_gain : Nat → Int32} {t_frontier_joy : Nat → Int32} {t_frontier_choice : Nat → Int32} {t_frontier_times : Nat → Int32} {t_frontier_light : Nat → Int32} {t_frontier_mark : Nat → Int32} {t_frontier_vertexPoint : Nat → Int32} {t_past_count : Int32} {t_past_setups_pq : Nat → Nat → Nat} {t_past_setups_pi : Nat → Nat → Int32} {t_past_setups_pr : Nat → Nat → Nat → Int32} {Q : Int32 → Int32 → Int32 → Int32 → Int32 → Int32 → Int32 → (Nat → Int32) → (Nat → Int32) → (Nat → Int32) → (Nat → Int32) → (Nat → Int32) → Int32 → (Nat → Int32) → Int32 → Int32 → Int32 → Int32 → (Nat → Int32) → (Nat → Int32) → (Nat → Int32) → (Nat → Int32) → (Nat → Int32) → (Nat → Int32) → (Nat → Int32) → (Nat → Int32) → Int32 → (Nat → Nat → Nat) → (Nat → Nat → Int32) → (Nat → Nat → Nat → Int32) → Prop} {QX : String → Int32 → Int32 → Int32 → Int32 → Int32 → Int32 → (Nat → Int32) → (Nat → Int32) → (Nat → Int32) → (Nat → Int32) → (Nat → Int32) → Int32 → (Nat → Int32) → Int32 → Int32 → Int32 → Int32 → (Nat → Int32) → (Nat → Int32) → (Nat → Int32) → (Nat → Int32) → (Nat → Int32) → (Nat → Int32) → (Nat → Int32) → (Nat → Int32) → Int32 → (Nat → Nat → Nat) → (Nat → Nat → Int32) → (Nat → Nat → Nat → Int32) → Prop} (hP : paP ps t_past_count t_past_setups_pi t_past_setups_pr) (hS : suP s t_now_items t_now_capacity t_now_limit t_now_mustSet t_now_neverSet t_now_hand t_now_weight t_now_gain t_now_joy t_now_bars t_now_needs) (hD : dkP s t_frontierFresh t_choices_sets t_choices_limit t_choices_mustSet t_choices_neverSet t_choices_weight t_choices_gain t_choices_joy t_choices_barred t_choices_needed t_frontier_size t_frontier_vertexCount t_frontier_allowedCount t_frontier_areaBelow t_frontier_pointAt t_frontier_gain t_frontier_joy t_frontier_choice t_frontier_times t_frontier_light t_frontier_mark t_frontier_vertexPoint) (hQ : 0 ≤ p1.toInt ∧ p1.toInt < s 0 → ¬ ((s 5).testBit p1.toInt.toNat = false) → rf s (s 1) (tb (s 5) p1.toInt.toNat false) = 0 → DQ (su s 5 (tb (s 5) p1.toInt.toNat false)) (fun ff sets lim must nev cw cg cj cb cn sac sja size vc ac area pa g j ch ti li mk vp => ∀ count pq pi pr, paP (pshL ps s) count pi pr → Q (iI (sm s 0 (tb (s 5) p1.toInt.toNat false) (s 0) : Nat)) ff (iI ((tb (s 5) p1.toInt.toNat false : Nat) : Int)) sets lim must nev cw cg cj cb cn sac sja size vc ac area pa g j ch ti li mk vp count pq pi pr))
    (hX : ∀ E, (¬ (0 ≤ p1.toInt ∧ p1.toInt < s 0) ∧ E = "java/lang/IndexOutOfBoundsException") ∨ ((0 ≤ p1.toInt ∧ p1.toInt < s 0) ∧ (((s 5).testBit p1.toInt.toNat = false) ∨ rf s (s 1) (tb (s 5) p1.toInt.toNat false) ≠ 0) ∧ E = "java/lang/IllegalStateException") → DQ s (fun ff sets lim must nev cw cg cj cb cn sac sja size vc ac area pa g j ch ti li mk vp => QX E ff t_now_hand sets lim must nev cw cg cj cb cn sac sja size vc ac area pa g j ch ti li mk vp t_past_count t_past_setups_pq t_past_setups_pi t_past_setups_pr)) : wp_X10_leave p1 t_frontierFresh t_now_items t_now_capacity t_now_limit t_now_mustSet t_now_neverSet t_now_hand t_choices_sets t_choices_limit t_choices_mustSet t_choices_neverSet t_choices_weight t_now_weight t_choices_gain t_now_gain t_choices_joy t_now_joy t_choices_barred t_now_bars t_choices_needed t_now_needs t_stairs_allowedCount t_stairs_joyAt t_frontier_size t_frontier_vertexCount t_frontier_allowedCount t_frontier_areaBelow t_frontier_pointAt t_frontier_gain t_frontier_joy t_frontier_choice t_frontier_times t_frontier_light t_frontier_mark t_frontier_vertexPoint t_past_count t_past_setups_pq t_past_setups_pi t_past_setups_pr Q QX := by
  have h12 := hW.1
  have hp := wf_pow hW
  have h5 := hW.2.2.2.2.2.1
  unfold wp_X10_leave
  refine sp_reqItem hW hS.1 (fun a => ?_) (fun a => hX _ (Or.inl ⟨a, rfl⟩) _ _ _ _ _ _ _ _ _ _ _ _ _ _ _ _ _ _ _ _ _ _ _ _ hD)
  obtain ⟨k, hk⟩ : ∃ k : Nat, p1.toInt = k := ⟨p1.toInt.toNat, by omega⟩
  have ans := hQ a
  have bad := fun z => hX "java/lang/IllegalStateException" (Or.inr ⟨a, z, rfl⟩)
  have e1 : p1 = iI (k : Nat) := by rw [iI_of p1, hk]
  rw [hk, Int.toNat_natCast] at ans bad
  subst e1
  have hv : tb (s 5) k false < 2 ^ s 0 := tb_lt h5 (by omega)
  have eh := hS.2.2.2.2.2.1
  subst eh
  refine sp_hasBit (by omega) (by omega) ?_
  by_cases c : (s 5).testBit k = true
  · rw [if_pos c]
    refine ⟨fun _ => sp_withBit (on := false) (by omega) (by omega) (by decide) (sp_reqAllowed hW (q := tb (s 5) k false) hv rfl hS hD (fun sets lim must nev cw cg cj cb cn sac sja size vc ac area pa g j ch ti li mk vp hC hF hr => sp_takeInHand hW hl hP hS fun count pq pi pr h => ⟨in_lit (by omega) (by omega), ?_⟩) (fun sets lim must nev cw cg cj cb cn sac sja size vc ac area pa g j ch ti li mk vp hC hF hr => bad (Or.inr hr) 1 sets lim must nev cw cg cj cb cn sac sja size vc ac area pa g j ch ti li mk vp (dkP_1 hC hF))), fun z => absurd z (by decide)⟩
    rw [iI_clN (by omega), hC.2.2.2.2.1 _ hv]
    exact ans (by rw [c]; decide) hr 1 sets lim must nev cw cg cj cb cn sac sja size vc ac area pa g j ch ti li mk vp (dkP_su5 (dkP_1 hC hF)) count pq pi pr h
  · rw [if_neg c]
    exact ⟨fun z => absurd rfl z, fun _ => bad (Or.inl (by simpa using c)) _ _ _ _ _ _ _ _ _ _ _ _ _ _ _ _ _ _ _ _ _ _ _ _ hD⟩
theorem sr_leave {s : Nat → Nat} (hW : WF s) {ps : List (Nat → Nat)} (hl : ps.length ≤ 8) (hw : ∀ t ∈ ps, WF t) {p1 : Int32} {t_thrown : Int32} {t_remembered : Int32} {t_net : Nat → Int32} {t_past : Nat → Int32} {Q : Int32 → Int32 → Int32 → (Nat → Int32) → (Nat → Int32) → Prop} (hP : prP ps t_remembered t_past) (hN : neP s t_net) (hQ : 0 ≤ p1.toInt ∧ p1.toInt < s 0 → ¬ ((s 5).testBit p1.toInt.toNat = false) → rf s (s 1) (tb (s 5) p1.toInt.toNat false) = 0 → ∀ rem past net, prP (pshL ps s) rem past → neP (su s 5 (tb (s 5) p1.toInt.toNat false)) net → Q (iI (sm s 0 (tb (s 5) p1.toInt.toNat false) (s 0) : Nat)) 0 rem net past)
    (hX : ∀ c : Int32, (¬ (0 ≤ p1.toInt ∧ p1.toInt < s 0) ∧ c = 1) ∨ ((0 ≤ p1.toInt ∧ p1.toInt < s 0) ∧ (((s 5).testBit p1.toInt.toNat = false) ∨ rf s (s 1) (tb (s 5) p1.toInt.toNat false) ≠ 0) ∧ c = 2) → Q 0 c t_remembered t_net t_past) : wp_X11_leave p1 t_thrown t_remembered t_net t_past Q := by
  have h12 := hW.1
  have hp := wf_pow hW
  have h5 := hW.2.2.2.2.2.1
  have e5 : (5 : Int32).toNatClampNeg = 5 := by decide
  have i5 : vp_in 5 66 := by rw [vp_in_iff]; decide
  unfold wp_X11_leave
  refine sp_isItem hW hN ?_
  by_cases a : 0 ≤ p1.toInt ∧ p1.toInt < (s 0 : Int)
  · simp only [if_pos a]
    obtain ⟨k, hk⟩ : ∃ k : Nat, p1.toInt = k := ⟨p1.toInt.toNat, by omega⟩
    have ans := hQ a
    have bad := fun z => hX 2 (Or.inr ⟨a, z, rfl⟩)
    have e1 : p1 = iI (k : Nat) := by rw [iI_of p1, hk]
    rw [hk, Int.toNat_natCast] at ans bad
    subst e1
    have hv : tb (s 5) k false < 2 ^ s 0 := tb_lt h5 (by omega)
    refine ⟨fun z => absurd z (by decide), fun _ => ⟨i5, fun v24 hv24 => ?_⟩⟩
    rw [e5, hN.1 5 (by omega), iI_shl1 k (by omega), iI_andn (by omega)] at hv24
    obtain rfl : v24 = iI ((tb (s 5) k false : Nat) : Int) := hv24
    refine ⟨fun z => absurd z (by decide), fun _ => ⟨i5, ?_⟩⟩
    rw [e5, hN.1 5 (by omega), iI_inj4 (by omega) (by omega), tb_same_leave ⟨by omega, by omega⟩]
    refine ⟨fun c => sp_passes2 (a := True) (b := False) ⟨fun _ => bad (Or.inl c), fun z => absurd rfl z⟩, fun c => sp_isAllowed hW hN hv ?_⟩
    by_cases b : rf s (s 1) (tb (s 5) k false) = 0
    · simp only [if_pos b]
      refine ⟨fun z => absurd z (by decide), fun _ => sp_passes2 (a := True) (b := True) ⟨fun z => absurd z (by decide), fun _ => ?_⟩⟩
      unfold wp_X11_becomes
      refine sr_remember hW hl hw hP hN fun rem past h => ⟨i5, ?_⟩
      rw [e5, iI_lit 0]
      have hN2 : neP (su s 5 (tb (s 5) k false)) (upd t_net 5 (iI ((tb (s 5) k false : Nat) : Int))) := neP_su hN (by omega) (by omega) rfl
      refine sp_sumOf (w := 0) (WF_c hW (k := 5) (v := tb (s 5) k false) (by omega)) hN2 (by omega) (by omega) ?_
      rw [su_ne (show (0 : Nat) ≠ 5 by omega), sm_su (by omega), ← iI_lit 0]
      exact ans c b rem past _ h hN2
    · simp only [if_neg b]
      exact ⟨fun _ => sp_passes2 (a := True) (b := False) ⟨fun _ => bad (Or.inr b), fun z => absurd rfl z⟩, fun z => (z trivial).elim⟩
  · simp only [if_neg a]
    exact ⟨fun _ => ⟨fun _ => sp_passes2 (a := False) (b := False) ⟨fun _ => hX 1 (Or.inl ⟨a, rfl⟩), fun z => absurd rfl z⟩, fun z => (z trivial).elim⟩, fun z => (z trivial).elim⟩
