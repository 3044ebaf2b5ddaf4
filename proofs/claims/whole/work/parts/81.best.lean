/-! CHOOSE THE BEST; IMPROVE: climbing by one item or by a swap -/
abbrev BST (s : Nat → Nat) (p q : Int) : Nat := CHo s (gb (vl (HH s) p q) (PN (HH s))).toNat
theorem sq_chooseBest {s : Nat → Nat} (hW : WF s) {ps : List (Nat → Nat)} (hl : ps.length ≤ 8) {p1 : Int32} {p2 : Int32} {t_frontierFresh : Int32} {t_now_items : Int32} {t_now_capacity : Int32} {t_now_limit : Int32} {t_now_mustSet : Int32} {t_now_neverSet : Int32} {t_now_hand : Int32} {t_choices_sets : Int32} {t_choices_limit : Int32} {t_choices_mustSet : Int32} {t_choices_neverSet : Int32} {t_choices_weight : Nat → Int32} {t_now_weight : Nat → Int32} {t_choices_gain : Nat → Int32} {t_now_gain : Nat → Int32} {t_choices_joy : Nat → Int32} {t_now_joy : Nat → Int32} {t_choices_barred : Nat → Int32} {t_now_bars : Nat → Int32} {t_choices_needed : Nat → Int32} {t_now_needs : Nat → Int32} {t_stairs_allowedCount : Int32} {t_stairs_joyAt : Nat → Int32} {t_frontier_size : Int32} {t_frontier_vertexCount : Int32} {t_frontier_allowedCount : Int32} {t_frontier_areaBelow : Int32} {t_frontier_pointAt : Nat → Int32} {t_frontier_gain : Nat → Int32} {t_frontier_joy : Nat → Int32} {t_frontier_choice : Nat → Int32} {t_frontier_times : Nat → Int32} {t_frontier_light : Nat → Int32} {t_frontier_mark : Nat → Int32} {t_frontier_vertexPoint : Nat → Int32} {t_past_count : Int32} {t_past_setups_pq : Nat → Nat → Nat} {t_past_setups_pi : Nat → Nat → Int32} {t_past_setups_pr : Nat → Nat → Nat → Int32} {Q : Int32 → Int32 → Int32 → Int32 → Int32 → Int32 → Int32 → (Nat → Int32) → (Nat → Int32) → (Nat → Int32) → (Nat → Int32) → (Nat → Int32) → Int32 → (Nat → Int32) → Int32 → Int32 → Int32 → Int32 → (Nat → Int32) → (Nat → Int32) → (Nat → Int32) → (Nat → Int32) → (Nat → Int32) → (Nat → Int32) → (Nat → Int32) → (Nat → Int32) → Int32 → (Nat → Nat → Nat) → (Nat → Nat → Int32) → (Nat → Nat → Nat → Int32) → Prop} {QX : String → Int32 → Int32 → Int32 → Int32 → Int32 → Int32 → (Nat → Int32) → (Nat → Int32) → (Nat → Int32) → (Nat → Int32) → (Nat → Int32) → Int32 → (Nat → Int32) → Int32 → Int32 → Int32 → Int32 → (Nat → Int32) → (Nat → Int32) → (Nat → Int32) → (Nat → Int32) → (Nat → Int32) → (Nat → Int32) → (Nat → Int32) → (Nat → Int32) → Int32 → (Nat → Nat → Nat) → (Nat → Nat → Int32) → (Nat → Nat → Nat → Int32) → Prop} (hP : paP ps t_past_count t_past_setups_pi t_past_setups_pr) (hS : suP s t_now_items t_now_capacity t_now_limit t_now_mustSet t_now_neverSet t_now_hand t_now_weight t_now_gain t_now_joy t_now_bars t_now_needs) (hD : dkP s t_frontierFresh t_choices_sets t_choices_limit t_choices_mustSet t_choices_neverSet t_choices_weight t_choices_gain t_choices_joy t_choices_barred t_choices_needed t_frontier_size t_frontier_vertexCount t_frontier_allowedCount t_frontier_areaBelow t_frontier_pointAt t_frontier_gain t_frontier_joy t_frontier_choice t_frontier_times t_frontier_light t_frontier_mark t_frontier_vertexPoint) (hQ : wgt p1 p2 → 0 < PN (HH s) → DQ (su s 5 (BST s p1.toInt p2.toInt)) (fun ff sets lim must nev cw cg cj cb cn sac sja size vc ac area pa g j ch ti li mk vp => ∀ count pq pi pr, paP (pshL ps s) count pi pr → Q (iI (BST s p1.toInt p2.toInt : Nat)) ff (iI (BST s p1.toInt p2.toInt : Nat)) sets lim must nev cw cg cj cb cn sac sja size vc ac area pa g j ch ti li mk vp count pq pi pr))
    (hX : ∀ E, (¬ wgt p1 p2 ∧ E = "java/lang/IllegalArgumentException") ∨ (wgt p1 p2 ∧ PN (HH s) = 0 ∧ E = "java/lang/IllegalStateException") → DQ s (fun ff sets lim must nev cw cg cj cb cn sac sja size vc ac area pa g j ch ti li mk vp => QX E ff t_now_hand sets lim must nev cw cg cj cb cn sac sja size vc ac area pa g j ch ti li mk vp t_past_count t_past_setups_pq t_past_setups_pi t_past_setups_pr)) : wp_X10_chooseBest p1 p2 t_frontierFresh t_now_items t_now_capacity t_now_limit t_now_mustSet t_now_neverSet t_now_hand t_choices_sets t_choices_limit t_choices_mustSet t_choices_neverSet t_choices_weight t_now_weight t_choices_gain t_now_gain t_choices_joy t_now_joy t_choices_barred t_now_bars t_choices_needed t_now_needs t_stairs_allowedCount t_stairs_joyAt t_frontier_size t_frontier_vertexCount t_frontier_allowedCount t_frontier_areaBelow t_frontier_pointAt t_frontier_gain t_frontier_joy t_frontier_choice t_frontier_times t_frontier_light t_frontier_mark t_frontier_vertexPoint t_past_count t_past_setups_pq t_past_setups_pi t_past_setups_pr Q QX := by
  have hN := PN_le (HH s)
  unfold wp_X10_chooseBest
  refine sp_reqW (fun h => sp_refresh hW hS hD fun sets lim must nev cw cg cj cb cn sac sja size vc ac area pa g j ch ti li mk vp hC hF => ?_) (fun h => hX _ (Or.inl ⟨h, rfl⟩) _ _ _ _ _ _ _ _ _ _ _ _ _ _ _ _ _ _ _ _ _ _ _ _ hD)
  have h5 := hF.2.2.2.2.1
  have key := @sp_greatestBy (HH s) (HH_stP hW) g j h5 size hF.1 p1.toInt p2.toInt h.1 (by have := h.2.1; omega) h.2.2.1 (by have := h.2.2.2.1; omega)
  rw [← iI_of, ← iI_of] at key
  refine key ?_
  by_cases n0 : PN (HH s) = 0
  · have e : gb (vl (HH s) p1.toInt p2.toInt) (PN (HH s)) = -1 := by rw [n0]; rfl
    rw [e]
    exact ⟨fun z => absurd rfl z, fun _ => hX _ (Or.inr ⟨h, n0, rfl⟩) 1 sets lim must nev cw cg cj cb cn sac sja size vc ac area pa g j ch ti li mk vp (dkP_1 hC hF)⟩
  · have ans := hQ h (by omega) 1 sets lim must nev cw cg cj cb cn sac sja size vc ac area pa g j ch ti li mk vp (dkP_su5 (dkP_1 hC hF))
    obtain ⟨k, hk, e⟩ := gb_pos (v := vl (HH s) p1.toInt p2.toInt) (n := PN (HH s)) (by omega)
    unfold BST at ans
    rw [e, Int.toNat_natCast] at ans
    rw [e]
    have hc := hF.2.2.2.2.2.1.2.1 k (by omega) (tm_pos hk)
    refine ⟨fun _ => ⟨in_lit (by omega) (by omega), ?_⟩, fun z => ?_⟩
    · rw [iI_clN (by omega), hc]
      exact sp_takeInHand hW hl hP hS fun count pq pi pr hp => ans count pq pi pr hp
    · rw [show (-1 : Int32) = iI (-1) from rfl, iI_eq (by omega) (by omega) (by omega) (by omega)] at z
      omega
theorem sr_chooseBest {s : Nat → Nat} (hW : WF s) {ps : List (Nat → Nat)} (hl : ps.length ≤ 8) (hw : ∀ t ∈ ps, WF t) {p1 : Int32} {p2 : Int32} {t_thrown : Int32} {t_allowedMany : Int32} {t_pointMany : Int32} {t_remembered : Int32} {t_joyAt : Nat → Int32} {t_net : Nat → Int32} {t_pointAt : Nat → Int32} {t_pointGain : Nat → Int32} {t_pointJoy : Nat → Int32} {t_pointTimes : Nat → Int32} {t_pointSet : Nat → Int32} {t_pointLight : Nat → Int32} {t_past : Nat → Int32} {Q : Int32 → Int32 → Int32 → Int32 → Int32 → (Nat → Int32) → (Nat → Int32) → (Nat → Int32) → (Nat → Int32) → (Nat → Int32) → (Nat → Int32) → (Nat → Int32) → (Nat → Int32) → (Nat → Int32) → Prop} (hP : prP ps t_remembered t_past) (hN : neP s t_net) (hQ : wgt p1 p2 → 0 < PN (HH s) → ∀ am pm rem ja net pa g j ti ch li past, prP (pshL ps s) rem past → neP (su s 5 (BST s p1.toInt p2.toInt)) net → Q (iI (BST s p1.toInt p2.toInt : Nat)) 0 am pm rem ja net pa g j ti ch li past)
    (hX : ∀ c : Int32, (¬ wgt p1 p2 ∧ c = 1) ∨ (wgt p1 p2 ∧ PN (HH s) = 0 ∧ c = 2) → ∀ am pm ja pa g j ti ch li, Q 0 c am pm t_remembered ja t_net pa g j ti ch li t_past) : wp_X11_chooseBest p1 p2 t_thrown t_allowedMany t_pointMany t_remembered t_joyAt t_net t_pointAt t_pointGain t_pointJoy t_pointTimes t_pointSet t_pointLight t_past Q := by
  have hN2 := PN_le (HH s)
  have e5 : (5 : Int32).toNatClampNeg = 5 := by decide
  have i5 : vp_in 5 66 := by rw [vp_in_iff]; decide
  unfold wp_X11_chooseBest
  refine sp_layA hW hN fun am pm ja pa g j ti ch li hM hC => sp_areW ?_
  have epm : pm = iI (PN (HH s) : Nat) := hM.2.1
  have e0 : (iI (PN (HH s) : Nat) ≤ 0) ↔ PN (HH s) = 0 := by
    rw [iI_lit 0, iI_le (by omega) (by omega) (by omega) (by omega)]
    omega
  rw [epm, e0]
  by_cases h : wgt p1 p2
  · simp only [if_pos h]
    refine ⟨fun n0 => sp_passes2 (a := True) (b := False) ⟨fun z => absurd rfl z, fun _ => hX 2 (Or.inr ⟨h, by omega, rfl⟩) _ _ _ _ _ _ _ _ _⟩, fun n0 => sp_passes2 (a := True) (b := True) ⟨fun _ => ?_, fun z => absurd z (by decide)⟩⟩
    refine sr_remember hW hl hw hP hN fun rem past hp => ?_
    have key := @sp_bestBy (HH s) (HH_stP hW) g j hM.2.2.2.2 (iI (PN (HH s) : Nat)) rfl p1.toInt p2.toInt h.1 (by have := h.2.1; omega) h.2.2.1 (by have := h.2.2.2.1; omega)
    rw [← iI_of, ← iI_of] at key
    refine key ?_
    have ans := hQ h (by omega)
    obtain ⟨k, hk, e⟩ := gb_pos (v := vl (HH s) p1.toInt p2.toInt) (n := PN (HH s)) (by omega)
    unfold BST at ans
    rw [e, Int.toNat_natCast] at ans
    rw [e]
    have hc := hC.2.1 k (by omega) (tm_pos hk)
    refine ⟨in_lit (by omega) (by omega), i5, i5, ?_⟩
    rw [e5, iI_clN (by omega), hc, pk_us]
    have hv := ch_lt (s := s) k
    exact ans _ _ rem _ _ _ _ _ _ _ _ past hp (neP_su hN (by omega) (by omega) rfl)
  · simp only [if_neg h]
    exact ⟨fun _ => sp_passes2 (a := False) (b := False) ⟨fun z => absurd rfl z, fun _ => hX 1 (Or.inl ⟨h, rfl⟩) _ _ _ _ _ _ _ _ _⟩, fun _ => sp_passes2 (a := False) (b := True) ⟨fun z => absurd rfl z, fun _ => hX 1 (Or.inl ⟨h, rfl⟩) _ _ _ _ _ _ _ _ _⟩⟩
