/-! ONE BOX; an item's and the setup's numbers -/
def boxv (s : Nat → Nat) (b w : Nat) : Int :=
  if w = 0 then (VP (HH s) b : Int) else if w = 1 then (VP (HH s) (b + 1) : Int) else if w = 2 then bxv (HH s) b else if w = 3 then (sbc (HH s) (VP (HH s) b + 1) (VP (HH s) (b + 1) - (VP (HH s) b + 1)) : Int) else (if bxv (HH s) b = 0 then -1 else (PG (HH s) (VP (HH s) (b + 1) - 1) : Int))
theorem sq_box {s : Nat → Nat} (hW : WF s) {hand : Int32} {p1 : Int32} {p2 : Int32} {t_frontierFresh : Int32} {t_now_items : Int32} {t_now_capacity : Int32} {t_now_limit : Int32} {t_now_mustSet : Int32} {t_now_neverSet : Int32} {t_choices_sets : Int32} {t_choices_limit : Int32} {t_choices_mustSet : Int32} {t_choices_neverSet : Int32} {t_choices_weight : Nat → Int32} {t_now_weight : Nat → Int32} {t_choices_gain : Nat → Int32} {t_now_gain : Nat → Int32} {t_choices_joy : Nat → Int32} {t_now_joy : Nat → Int32} {t_choices_barred : Nat → Int32} {t_now_bars : Nat → Int32} {t_choices_needed : Nat → Int32} {t_now_needs : Nat → Int32} {t_stairs_allowedCount : Int32} {t_stairs_joyAt : Nat → Int32} {t_frontier_size : Int32} {t_frontier_vertexCount : Int32} {t_frontier_allowedCount : Int32} {t_frontier_areaBelow : Int32} {t_frontier_pointAt : Nat → Int32} {t_frontier_gain : Nat → Int32} {t_frontier_joy : Nat → Int32} {t_frontier_choice : Nat → Int32} {t_frontier_times : Nat → Int32} {t_frontier_light : Nat → Int32} {t_frontier_mark : Nat → Int32} {t_frontier_vertexPoint : Nat → Int32} {Q : Int32 → Int32 → Int32 → Int32 → Int32 → Int32 → (Nat → Int32) → (Nat → Int32) → (Nat → Int32) → (Nat → Int32) → (Nat → Int32) → Int32 → (Nat → Int32) → Int32 → Int32 → Int32 → Int32 → (Nat → Int32) → (Nat → Int32) → (Nat → Int32) → (Nat → Int32) → (Nat → Int32) → (Nat → Int32) → (Nat → Int32) → (Nat → Int32) → Prop} {QX : String → Int32 → Int32 → Int32 → Int32 → Int32 → (Nat → Int32) → (Nat → Int32) → (Nat → Int32) → (Nat → Int32) → (Nat → Int32) → Int32 → (Nat → Int32) → Int32 → Int32 → Int32 → Int32 → (Nat → Int32) → (Nat → Int32) → (Nat → Int32) → (Nat → Int32) → (Nat → Int32) → (Nat → Int32) → (Nat → Int32) → (Nat → Int32) → Prop} (hS : suP s t_now_items t_now_capacity t_now_limit t_now_mustSet t_now_neverSet hand t_now_weight t_now_gain t_now_joy t_now_bars t_now_needs) (hD : dkP s t_frontierFresh t_choices_sets t_choices_limit t_choices_mustSet t_choices_neverSet t_choices_weight t_choices_gain t_choices_joy t_choices_barred t_choices_needed t_frontier_size t_frontier_vertexCount t_frontier_allowedCount t_frontier_areaBelow t_frontier_pointAt t_frontier_gain t_frontier_joy t_frontier_choice t_frontier_times t_frontier_light t_frontier_mark t_frontier_vertexPoint) (hQ : 0 ≤ p1.toInt ∧ p1.toInt < (VC (HH s) : Int) - 1 → 0 ≤ p2.toInt ∧ p2.toInt ≤ 4 → DQ s (Q (iI (boxv s p1.toInt.toNat p2.toInt.toNat)))) (hX1 : ¬ (0 ≤ p1.toInt ∧ p1.toInt < (VC (HH s) : Int) - 1) → DQ s (QX "java/lang/IndexOutOfBoundsException")) (hX2 : 0 ≤ p1.toInt ∧ p1.toInt < (VC (HH s) : Int) - 1 → ¬ (0 ≤ p2.toInt ∧ p2.toInt ≤ 4) → DQ s (QX "java/lang/IllegalArgumentException")) : wp_X10_box p1 p2 t_frontierFresh t_now_items t_now_capacity t_now_limit t_now_mustSet t_now_neverSet t_choices_sets t_choices_limit t_choices_mustSet t_choices_neverSet t_choices_weight t_now_weight t_choices_gain t_now_gain t_choices_joy t_now_joy t_choices_barred t_now_bars t_choices_needed t_now_needs t_stairs_allowedCount t_stairs_joyAt t_frontier_size t_frontier_vertexCount t_frontier_allowedCount t_frontier_areaBelow t_frontier_pointAt t_frontier_gain t_frontier_joy t_frontier_choice t_frontier_times t_frontier_light t_frontier_mark t_frontier_vertexPoint Q QX := by
  have hN := PN_le (HH s)
  have hC := VC_le (HH s)
  unfold wp_X10_box
  refine sp_refresh hW hS hD fun sets lim must nev cw cg cj cb cn sac sja size vc ac area pa g j ch ti li mk vp hP hF => ?_
  have hd := dkP_1 hP hF
  obtain ⟨f1, -, -, -, hG, -, hM, v1, v2⟩ := hF
  have e1 : (vc - 1).toInt = (VC (HH s) : Int) - 1 := by rw [v1, iI_lit 1, iI_sub, iI_toInt (by omega) (by omega)]; rfl
  rw [i_lt0, i_lt, e1]
  refine ⟨fun c => hX1 (by omega) _ _ _ _ _ _ _ _ _ _ _ _ _ _ _ _ _ _ _ _ _ _ _ _ hd, fun c => ⟨fun c2 => sp_reqWhat (k := 4) rfl (fun h2 => ?_) (fun h2 => hX2 (by omega) h2 _ _ _ _ _ _ _ _ _ _ _ _ _ _ _ _ _ _ _ _ _ _ _ _ hd), fun c2 => hX1 (by omega) _ _ _ _ _ _ _ _ _ _ _ _ _ _ _ _ _ _ _ _ _ _ _ _ hd⟩⟩
  have ans := hQ (by omega) h2 1 sets lim must nev cw cg cj cb cn sac sja size vc ac area pa g j ch ti li mk vp hd
  obtain ⟨b, hb⟩ : ∃ b : Nat, p1.toInt = b := ⟨p1.toInt.toNat, by omega⟩
  obtain ⟨k, hk⟩ : ∃ k : Nat, p2.toInt = k := ⟨p2.toInt.toNat, by omega⟩
  have ep : p1 = iI (b : Nat) := by rw [iI_of p1, hb]
  have q0 := VP_lt (h := HH s) (k := b) (by omega)
  have q1 := VP_lt (h := HH s) (k := b + 1) (by omega)
  have qm := VP_mono (h := HH s) (k := b) (l := b + 1) (by omega) (by omega)
  have hbx := bxv_rng (h := HH s) (k := b) (by omega)
  rw [hb, hk, Int.toNat_natCast, Int.toNat_natCast] at ans
  have ex : iI (b : Nat) + (1 : Int32) = iI ((b + 1 : Nat) : Int) := iI_succ b
  rw [ep, ex, iI_clN (by omega), iI_clN (by omega), v2 b (by omega), v2 (b + 1) (by omega)]
  refine ⟨in_lit (by omega) (by omega), fun v45 h45 => ⟨in_lit (by omega) (by omega), fun v57 h57 => ?_⟩⟩
  subst h45; subst h57
  rw [i_eqv (p := p2) (v := 0) (k := 0) rfl, i_eqv (p := p2) (v := 1) (k := 1) rfl, i_eqv (p := p2) (v := 2) (k := 2) rfl, i_eqv (p := p2) (v := 3) (k := 3) rfl, hk]
  have d1 : iI (VP (HH s) (b + 1) : Nat) - iI (VP (HH s) b : Nat) = iI ((VP (HH s) (b + 1) : Int) - VP (HH s) b) := iI_sub _ _
  rw [d1]
  refine ⟨fun c => ?_, fun c => ?_, fun c => ?_, fun c => ?_, fun c0 c1 c2 c3 => ⟨fun z => ?_, fun z => ?_⟩⟩
  · rw [show k = 0 by omega] at ans; exact ans
  · rw [show k = 1 by omega] at ans; exact ans
  · rw [show k = 2 by omega] at ans; rw [iI_lit 1, iI_sub]; exact ans
  · rw [show k = 3 by omega] at ans
    exact sp_supportedBetween (Q := fun r => Q r 1 sets lim must nev cw cg cj cb cn sac sja size vc ac area pa g j ch ti li mk vp) hM f1 (a := VP (HH s) b + 1) (iI_succ _) (by omega) (by omega) ans
  · rw [iI_lit 1, iI_le (by omega) (by omega) (by omega) (by omega)] at z
    rw [show k = 4 by omega, show boxv s b 4 = (if bxv (HH s) b = 0 then -1 else (PG (HH s) (VP (HH s) (b + 1) - 1) : Int)) from rfl, if_pos (by unfold bxv; omega)] at ans
    rw [iI_m1]; exact ans
  · rw [iI_lit 1, iI_le (by omega) (by omega) (by omega) (by omega)] at z
    rw [show k = 4 by omega, show boxv s b 4 = (if bxv (HH s) b = 0 then -1 else (PG (HH s) (VP (HH s) (b + 1) - 1) : Int)) from rfl, if_neg (by unfold bxv; omega)] at ans
    have e2 : iI (VP (HH s) (b + 1) : Nat) - (1 : Int32) = iI ((VP (HH s) (b + 1) - 1 : Nat) : Int) := by
      rw [iI_lit 1, iI_sub]
      exact congrArg iI (by omega)
    rw [e2, iI_clN (by omega), hG.1 _ (by omega)]
    exact ⟨in_lit (by omega) (by omega), ans⟩
theorem sl_supportedIn {h : Nat → Int} (hs : stP h) {gain joy : Nat → Int32} (hG : ptG h gain joy) {vc : Int32} {vp : Nat → Int32} (hV : vxP h vc vp) {b : Nat} (hb : b + 1 < VC h) {Q : Int32 → Prop} (hQ : Q (iI (sbc h (VP h b + 1) (VP h (b + 1) - (VP h b + 1)) : Nat))) : wp_X11_supportedIn (iI (b : Nat)) vc vp joy gain Q := by
  have hN := PN_le h
  have hC := VC_le h
  have q0 := VP_lt (h := h) (k := b) (by omega)
  have q1 := VP_lt (h := h) (k := b + 1) hb
  have qm := VP_mono (h := h) (k := b) (l := b + 1) (by omega) hb
  obtain ⟨v1, v2⟩ := id hV
  have ex : iI (b : Nat) + (1 : Int32) = iI ((b + 1 : Nat) : Int) := iI_succ b
  have key : ∀ (e d : Nat), VP h b + 1 + d + e = VP h (b + 1) → wp_X11_supportedIn_L11 vc vp joy gain (iI (b : Nat)) Q (e + 1) (iI (sbc h (VP h b + 1) d : Nat)) (iI ((VP h b + 1 + d : Nat) : Int)) := by
    intro e
    induction e with
    | zero =>
      intro d hd
      unfold wp_X11_supportedIn_L11
      rw [ex, iI_clN (by omega), v2 (b + 1) hb]
      obtain rfl : d = VP h (b + 1) - (VP h b + 1) := by omega
      rw [show VP h b + 1 + (VP h (b + 1) - (VP h b + 1)) = VP h (b + 1) by omega]
      exact ⟨in_lit (by omega) (by omega), fun _ => hQ, fun z => absurd (Int32.le_refl _) z⟩
    | succ e ih =>
      intro d hd
      have nx := ih (d + 1) (by omega)
      unfold wp_X11_supportedIn_L11
      rw [ex, iI_clN (by omega), v2 (b + 1) hb, iI_le (by omega) (by omega) (by omega) (by omega), iI_succ]
      refine ⟨in_lit (by omega) (by omega), fun z => absurd z (by omega), fun _ => sp_isSupported hs hG hV (by omega) ?_⟩
      simp only [sbc] at nx
      by_cases c : MK h (VP h b + 1 + d) ≠ 0
      · rw [if_pos c]
        rw [if_pos c] at nx
        refine ⟨fun z => absurd z (by decide), fun _ v hv => ?_⟩
        rw [iI_succ] at hv
        subst hv
        exact nx
      · rw [if_neg c]
        rw [if_neg c] at nx
        refine ⟨fun _ v hv => ?_, fun z => absurd rfl z⟩
        rw [iI_lit 0, iI_add] at hv
        subst hv
        exact nx
  unfold wp_X11_supportedIn
  rw [iI_clN (by omega), v2 b (by omega)]
  refine ⟨in_lit (by omega) (by omega), fun v hv => ⟨VP h (b + 1) - (VP h b + 1) + 1, ?_⟩⟩
  rw [iI_succ] at hv
  subst hv
  rw [iI_lit 0]
  exact key _ 0 (by omega)
theorem sr_box {s : Nat → Nat} (hW : WF s) {p1 : Int32} {p2 : Int32} {t_thrown : Int32} {t_allowedMany : Int32} {t_pointMany : Int32} {t_cornerMany : Int32} {t_joyAt : Nat → Int32} {t_row : Nat → Int32} {t_pointAt : Nat → Int32} {t_pointGain : Nat → Int32} {t_pointJoy : Nat → Int32} {t_pointTimes : Nat → Int32} {t_pointSet : Nat → Int32} {t_pointLight : Nat → Int32} {t_corner : Nat → Int32} {Q : Int32 → Int32 → Int32 → Int32 → Int32 → (Nat → Int32) → (Nat → Int32) → (Nat → Int32) → (Nat → Int32) → (Nat → Int32) → (Nat → Int32) → (Nat → Int32) → (Nat → Int32) → Prop} (hN : neP s t_row) (hQ : ∀ am pm cm ja pa g j ti ch li co, Q (if (0 ≤ p1.toInt ∧ p1.toInt < (VC (HH s) : Int) - 1) ∧ (0 ≤ p2.toInt ∧ p2.toInt ≤ 4) then iI (boxv s p1.toInt.toNat p2.toInt.toNat) else 0) (if 0 ≤ p1.toInt ∧ p1.toInt < (VC (HH s) : Int) - 1 then if 0 ≤ p2.toInt ∧ p2.toInt ≤ 4 then 0 else 2 else 1) am pm cm ja pa g j ti ch li co) : wp_X11_box p1 p2 t_thrown t_allowedMany t_pointMany t_cornerMany t_joyAt t_row t_pointAt t_pointGain t_pointJoy t_pointTimes t_pointSet t_pointLight t_corner Q := by
  have hN2 := PN_le (HH s)
  have hC := VC_le (HH s)
  have hs := HH_stP hW
  unfold wp_X11_box
  refine sp_layCornersToo hW hN fun am pm cm ja pa g j ti ch li co hM => ?_
  have ans := hQ am pm cm ja pa g j ti ch li co
  obtain ⟨⟨-, m2, -, m4, hG⟩, -, hV⟩ := hM
  obtain ⟨v1, v2⟩ := id hV
  have e1 : ((cm - 2).toInt64).toInt = (VC (HH s) : Int) - 2 := by rw [Int32.toInt_toInt64, v1, iI_lit 2, iI_sub, iI_toInt (by omega) (by omega)]; rfl
  have e2 : (0 ≤ p1.toInt ∧ p1.toInt ≤ (VC (HH s) : Int) - 2) ↔ (0 ≤ p1.toInt ∧ p1.toInt < (VC (HH s) : Int) - 1) := by omega
  refine sp_in0 e1 (sp_in0 (k := 4) rfl (sp_passes2 ?_))
  by_cases h : 0 ≤ p1.toInt ∧ p1.toInt < (VC (HH s) : Int) - 1
  · rw [if_pos (e2.mpr h)]
    rw [if_pos h] at ans
    by_cases h2 : 0 ≤ p2.toInt ∧ p2.toInt ≤ 4
    · rw [if_pos h2]
      rw [if_pos ⟨h, h2⟩, if_pos h2] at ans
      refine ⟨fun _ => ?_, fun z => absurd z (by decide)⟩
      obtain ⟨b, hb⟩ : ∃ b : Nat, p1.toInt = b := ⟨p1.toInt.toNat, by omega⟩
      obtain ⟨k, hk⟩ : ∃ k : Nat, p2.toInt = k := ⟨p2.toInt.toNat, by omega⟩
      have ep : p1 = iI (b : Nat) := by rw [iI_of p1, hb]
      have q0 := VP_lt (h := HH s) (k := b) (by omega)
      have q1 := VP_lt (h := HH s) (k := b + 1) (by omega)
      have qm := VP_mono (h := HH s) (k := b) (l := b + 1) (by omega) (by omega)
      have hbx := bxv_rng (h := HH s) (k := b) (by omega)
      rw [hb, hk, Int.toNat_natCast, Int.toNat_natCast] at ans
      have ex : iI (b : Nat) + (1 : Int32) = iI ((b + 1 : Nat) : Int) := iI_succ b
      rw [ep, ex, iI_clN (by omega), iI_clN (by omega), v2 b (by omega), v2 (b + 1) (by omega), i_eqv (p := p2) (v := 0) (k := 0) rfl, i_eqv (p := p2) (v := 1) (k := 1) rfl, i_eqv (p := p2) (v := 2) (k := 2) rfl, i_eqv (p := p2) (v := 3) (k := 3) rfl, hk]
      refine ⟨fun c => ⟨in_lit (by omega) (by omega), ?_⟩, fun c => ⟨in_lit (by omega) (by omega), ?_⟩, fun c => sp_between hV (by omega) ?_, fun c => sl_supportedIn hs hG hV (by omega) ?_, fun c0 c1 c2 c3 => sp_between hV (by omega) ?_⟩
      · rw [show k = 0 by omega] at ans; exact ans
      · rw [show k = 1 by omega] at ans; exact ans
      · rw [show k = 2 by omega] at ans; exact ans
      · rw [show k = 3 by omega] at ans; exact ans
      · rw [show k = 4 by omega, show boxv s b 4 = (if bxv (HH s) b = 0 then -1 else (PG (HH s) (VP (HH s) (b + 1) - 1) : Int)) from rfl] at ans
        have e3 : iI (VP (HH s) (b + 1) : Nat) - (1 : Int32) = iI ((VP (HH s) (b + 1) - 1 : Nat) : Int) := by
          rw [iI_lit 1, iI_sub]
          exact congrArg iI (by omega)
        have z : iI (bxv (HH s) b) = 0 ↔ bxv (HH s) b = 0 := by rw [iI_lit 0, iI_eq (by omega) (by omega) (by omega) (by omega)]; omega
        rw [z, e3, iI_clN (by omega), hG.1 _ (by omega)]
        refine ⟨fun w => ⟨in_lit (by omega) (by omega), in_lit (by omega) (by omega), ?_⟩, fun w => ?_⟩
        · rw [if_neg w] at ans; exact ans
        · rw [if_pos w] at ans; rw [iI_m1]; exact ans
    · rw [if_neg h2]
      rw [if_neg (fun z => h2 z.2), if_neg h2] at ans
      exact ⟨fun z => absurd rfl z, fun _ => ans⟩
  · rw [if_neg (fun z => h (e2.mp z))]
    rw [if_neg (fun z => h z.1), if_neg h] at ans
    exact ⟨fun z => absurd rfl z, fun _ => ans⟩
