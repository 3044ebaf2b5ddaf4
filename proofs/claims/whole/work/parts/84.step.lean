/-! ONE STEP, as the class answers it -/
theorem sq_step {s : Nat → Nat} (hW : WF s) {hand : Int32} {p1 : Int32} {p2 : Int32} {t_frontierFresh : Int32} {t_searchFresh : Int32} {t_now_items : Int32} {t_now_capacity : Int32} {t_now_limit : Int32} {t_now_mustSet : Int32} {t_now_neverSet : Int32} {t_choices_sets : Int32} {t_choices_limit : Int32} {t_choices_mustSet : Int32} {t_choices_neverSet : Int32} {t_choices_weight : Nat → Int32} {t_now_weight : Nat → Int32} {t_choices_gain : Nat → Int32} {t_now_gain : Nat → Int32} {t_choices_joy : Nat → Int32} {t_now_joy : Nat → Int32} {t_choices_barred : Nat → Int32} {t_now_bars : Nat → Int32} {t_choices_needed : Nat → Int32} {t_now_needs : Nat → Int32} {t_stairs_allowedCount : Int32} {t_stairs_joyAt : Nat → Int32} {t_frontier_size : Int32} {t_frontier_vertexCount : Int32} {t_frontier_allowedCount : Int32} {t_frontier_areaBelow : Int32} {t_frontier_pointAt : Nat → Int32} {t_frontier_gain : Nat → Int32} {t_frontier_joy : Nat → Int32} {t_frontier_choice : Nat → Int32} {t_frontier_times : Nat → Int32} {t_frontier_light : Nat → Int32} {t_frontier_mark : Nat → Int32} {t_frontier_vertexPoint : Nat → Int32} {t_search_count : Int32} {t_search_from : Nat → Int32} {t_search_to : Nat → Int32} {t_search_found : Nat → Int32} {Q : Int32 → Int32 → Int32 → Int32 → Int32 → Int32 → Int32 → (Nat → Int32) → (Nat → Int32) → (Nat → Int32) → (Nat → Int32) → (Nat → Int32) → Int32 → (Nat → Int32) → Int32 → Int32 → Int32 → Int32 → (Nat → Int32) → (Nat → Int32) → (Nat → Int32) → (Nat → Int32) → (Nat → Int32) → (Nat → Int32) → (Nat → Int32) → (Nat → Int32) → Int32 → (Nat → Int32) → (Nat → Int32) → (Nat → Int32) → Prop} {QX : String → Int32 → Int32 → Int32 → Int32 → Int32 → Int32 → (Nat → Int32) → (Nat → Int32) → (Nat → Int32) → (Nat → Int32) → (Nat → Int32) → Int32 → (Nat → Int32) → Int32 → Int32 → Int32 → Int32 → (Nat → Int32) → (Nat → Int32) → (Nat → Int32) → (Nat → Int32) → (Nat → Int32) → (Nat → Int32) → (Nat → Int32) → (Nat → Int32) → Int32 → (Nat → Int32) → (Nat → Int32) → (Nat → Int32) → Prop} (hS : suP s t_now_items t_now_capacity t_now_limit t_now_mustSet t_now_neverSet hand t_now_weight t_now_gain t_now_joy t_now_bars t_now_needs) (hD : dkP s t_frontierFresh t_choices_sets t_choices_limit t_choices_mustSet t_choices_neverSet t_choices_weight t_choices_gain t_choices_joy t_choices_barred t_choices_needed t_frontier_size t_frontier_vertexCount t_frontier_allowedCount t_frontier_areaBelow t_frontier_pointAt t_frontier_gain t_frontier_joy t_frontier_choice t_frontier_times t_frontier_light t_frontier_mark t_frontier_vertexPoint) (hE : seP (HH s) t_searchFresh t_search_count t_search_from t_search_to t_search_found) (hQ : 0 ≤ p2.toInt ∧ p2.toInt ≤ 4 → 0 ≤ p1.toInt ∧ p1.toInt < (SX (HH s) : Int) → DS s (Q (iI (stv (HH s) p1.toInt.toNat p2.toInt.toNat))))
    (hX : ∀ E, (¬ (0 ≤ p2.toInt ∧ p2.toInt ≤ 4) ∧ E = "java/lang/IllegalArgumentException") ∨ ((0 ≤ p2.toInt ∧ p2.toInt ≤ 4) ∧ ¬ (0 ≤ p1.toInt ∧ p1.toInt < (SX (HH s) : Int)) ∧ E = "java/util/NoSuchElementException") → DS s (QX E)) : wp_X10_step p1 p2 t_frontierFresh t_searchFresh t_now_items t_now_capacity t_now_limit t_now_mustSet t_now_neverSet t_choices_sets t_choices_limit t_choices_mustSet t_choices_neverSet t_choices_weight t_now_weight t_choices_gain t_now_gain t_choices_joy t_now_joy t_choices_barred t_now_bars t_choices_needed t_now_needs t_stairs_allowedCount t_stairs_joyAt t_frontier_size t_frontier_vertexCount t_frontier_allowedCount t_frontier_areaBelow t_frontier_pointAt t_frontier_gain t_frontier_joy t_frontier_choice t_frontier_times t_frontier_light t_frontier_mark t_frontier_vertexPoint t_search_count t_search_from t_search_to t_search_found Q QX := by
  have hx := SX_le (HH_stP hW)
  have hN := PN_le (HH s)
  unfold wp_X10_step
  refine sp_reqWhat (k := 4) rfl (fun c => sp_refreshSearch hW hS hD hE fun sets lim must nev cw cg cj cb cn sac sja size vc ac area pa g j ch ti li mk vp sc sfr sto sfd hP hF hR => ?_) (fun c => hX _ (Or.inl ⟨c, rfl⟩) _ _ _ _ _ _ _ _ _ _ _ _ _ _ _ _ _ _ _ _ _ _ _ _ _ _ _ _ _ hD hE)
  have hd := dkP_1 hP hF
  have he : seP (HH s) 1 sc sfr sto sfd := Or.inr ⟨rfl, hR⟩
  have bad := fun z => hX _ (Or.inr ⟨c, z, rfl⟩) 1 1 sets lim must nev cw cg cj cb cn sac sja size vc ac area pa g j ch ti li mk vp sc sfr sto sfd hd he
  have good := fun z => hQ c z 1 1 sets lim must nev cw cg cj cb cn sac sja size vc ac area pa g j ch ti li mk vp sc sfr sto sfd hd he
  have e2 : sc.toInt = SX (HH s) := by rw [hR.1, iI_toInt (by omega) (by omega)]
  rw [i_lt0, i_lt, e2]
  refine ⟨fun a => bad (by omega), fun a => ⟨fun d => ?_, fun d => bad (by omega)⟩⟩
  have in_ : vp_in p1 2378 := by rw [vp_in_iff]; omega
  obtain ⟨n, hn⟩ : ∃ n : Nat, p1.toInt = n := ⟨p1.toInt.toNat, by omega⟩
  obtain ⟨k, hk⟩ : ∃ k : Nat, p2.toInt = k := ⟨p2.toInt.toNat, by omega⟩
  have ans := good (by omega)
  have ep : p1 = iI (n : Nat) := by rw [iI_of p1, hn]
  obtain ⟨r1, r2, r3⟩ := hR.2 n (by omega)
  obtain ⟨b1, b2⟩ := SX_ends (HH_stP hW) (k := n) (by omega)
  rw [hn, hk, Int.toNat_natCast, Int.toNat_natCast] at ans
  refine ⟨in_, fun v hv => ⟨in_, fun w hw => ?_⟩⟩
  rw [ep, iI_clN (by omega)] at hv hw
  rw [r1] at hv
  rw [r2] at hw
  subst hv
  subst hw
  rw [i_eqv (p := p2) (v := 0) (k := 0) rfl, i_eqv (p := p2) (v := 1) (k := 1) rfl, i_eqv (p := p2) (v := 2) (k := 2) rfl, i_eqv (p := p2) (v := 3) (k := 3) rfl, hk]
  refine ⟨fun w => ?_, fun w => ?_, fun w => sp_joyLost hF.2.2.2.2.1 (by omega) b2 ?_, fun w => sp_gainWon hF.2.2.2.2.1 (by omega) b2 ?_, fun w0 w1 w2 w3 => ⟨in_, ?_⟩⟩
  · rw [show k = 0 by omega] at ans; exact ans
  · rw [show k = 1 by omega] at ans; exact ans
  · rw [show k = 2 by omega] at ans; exact ans
  · rw [show k = 3 by omega] at ans; exact ans
  · rw [show k = 4 by omega] at ans
    rw [ep, iI_clN (by omega), r3]
    exact ans
