/-! CLIMB; what one keeps under another choice at hand; THE COMMON STATE -/
theorem sq_climb {s : Nat → Nat} (hW : WF s) {p1 : Int32} {p2 : Int32} {t_frontierFresh : Int32} {t_now_items : Int32} {t_now_capacity : Int32} {t_now_limit : Int32} {t_now_mustSet : Int32} {t_now_neverSet : Int32} {t_now_hand : Int32} {t_choices_sets : Int32} {t_choices_limit : Int32} {t_choices_mustSet : Int32} {t_choices_neverSet : Int32} {t_choices_weight : Nat → Int32} {t_now_weight : Nat → Int32} {t_choices_gain : Nat → Int32} {t_now_gain : Nat → Int32} {t_choices_joy : Nat → Int32} {t_now_joy : Nat → Int32} {t_choices_barred : Nat → Int32} {t_now_bars : Nat → Int32} {t_choices_needed : Nat → Int32} {t_now_needs : Nat → Int32} {t_stairs_allowedCount : Int32} {t_stairs_joyAt : Nat → Int32} {t_frontier_size : Int32} {t_frontier_vertexCount : Int32} {t_frontier_allowedCount : Int32} {t_frontier_areaBelow : Int32} {t_frontier_pointAt : Nat → Int32} {t_frontier_gain : Nat → Int32} {t_frontier_joy : Nat → Int32} {t_frontier_choice : Nat → Int32} {t_frontier_times : Nat → Int32} {t_frontier_light : Nat → Int32} {t_frontier_mark : Nat → Int32} {t_frontier_vertexPoint : Nat → Int32} {t_climber_at : Int32} {t_climber_steps : Int32} {t_climber_bestSet : Int32} {t_climber_bestValue : Int32} {Q : Int32 → Int32 → Int32 → Int32 → Int32 → Int32 → (Nat → Int32) → (Nat → Int32) → (Nat → Int32) → (Nat → Int32) → (Nat → Int32) → Int32 → (Nat → Int32) → Int32 → Int32 → Int32 → Int32 → (Nat → Int32) → (Nat → Int32) → (Nat → Int32) → (Nat → Int32) → (Nat → Int32) → (Nat → Int32) → (Nat → Int32) → (Nat → Int32) → Int32 → Int32 → Int32 → Int32 → Prop} {QX : String → Int32 → Int32 → Int32 → Int32 → Int32 → (Nat → Int32) → (Nat → Int32) → (Nat → Int32) → (Nat → Int32) → (Nat → Int32) → Int32 → (Nat → Int32) → Int32 → Int32 → Int32 → Int32 → (Nat → Int32) → (Nat → Int32) → (Nat → Int32) → (Nat → Int32) → (Nat → Int32) → (Nat → Int32) → (Nat → Int32) → (Nat → Int32) → Int32 → Int32 → Int32 → Int32 → Prop} (hS : suP s t_now_items t_now_capacity t_now_limit t_now_mustSet t_now_neverSet t_now_hand t_now_weight t_now_gain t_now_joy t_now_bars t_now_needs) (hD : dkP s t_frontierFresh t_choices_sets t_choices_limit t_choices_mustSet t_choices_neverSet t_choices_weight t_choices_gain t_choices_joy t_choices_barred t_choices_needed t_frontier_size t_frontier_vertexCount t_frontier_allowedCount t_frontier_areaBelow t_frontier_pointAt t_frontier_gain t_frontier_joy t_frontier_choice t_frontier_times t_frontier_light t_frontier_mark t_frontier_vertexPoint) (hQ : wgt p1 p2 → DQ s (fun ff sets lim must nev cw cg cj cb cn sac sja size vc ac area pa g j ch ti li mk vp => ∀ at_ st bs bv, Q (iI ((CLM s p1.toInt p2.toInt).1 : Nat)) ff sets lim must nev cw cg cj cb cn sac sja size vc ac area pa g j ch ti li mk vp at_ st bs bv))
    (hX : ¬ wgt p1 p2 → DQ s (fun ff sets lim must nev cw cg cj cb cn sac sja size vc ac area pa g j ch ti li mk vp => QX "java/lang/IllegalArgumentException" ff sets lim must nev cw cg cj cb cn sac sja size vc ac area pa g j ch ti li mk vp t_climber_at t_climber_steps t_climber_bestSet t_climber_bestValue)) : wp_X10_climb p1 p2 t_frontierFresh t_now_items t_now_capacity t_now_limit t_now_mustSet t_now_neverSet t_now_hand t_choices_sets t_choices_limit t_choices_mustSet t_choices_neverSet t_choices_weight t_now_weight t_choices_gain t_now_gain t_choices_joy t_now_joy t_choices_barred t_now_bars t_choices_needed t_now_needs t_stairs_allowedCount t_stairs_joyAt t_frontier_size t_frontier_vertexCount t_frontier_allowedCount t_frontier_areaBelow t_frontier_pointAt t_frontier_gain t_frontier_joy t_frontier_choice t_frontier_times t_frontier_light t_frontier_mark t_frontier_vertexPoint t_climber_at t_climber_steps t_climber_bestSet t_climber_bestValue Q QX := by
  have h5 := hW.2.2.2.2.2.1
  unfold wp_X10_climb
  refine sp_reqW (fun h => sp_refresh hW hS hD fun sets lim must nev cw cg cj cb cn sac sja size vc ac area pa g j ch ti li mk vp hC hF => ?_) (fun h => hX h _ _ _ _ _ _ _ _ _ _ _ _ _ _ _ _ _ _ _ _ _ _ _ _ hD)
  have ans := hQ h 1 sets lim must nev cw cg cj cb cn sac sja size vc ac area pa g j ch ti li mk vp (dkP_1 hC hF)
  have hpq : 0 ≤ p1.toInt ∧ p1.toInt ≤ 99 ∧ 0 ≤ p2.toInt ∧ p2.toInt ≤ 99 := ⟨h.1, h.2.1, h.2.2.1, h.2.2.2.1⟩
  unfold wp_X1_run
  refine ⟨4097, ?_⟩
  have key := fun {Q : Int32 → Int32 → Int32 → Int32 → Prop} (hQ : ∀ bs bv, Q (iI ((CLM s p1.toInt p2.toInt).1 : Nat)) (iI ((CLM s p1.toInt p2.toInt).2 : Nat)) bs bv) => sl_climb hW hpq (t2_hand := t_now_hand) hC hQ 4096 (s 5) 0 t_climber_bestSet t_climber_bestValue h5 (by omega) rfl
  rw [← iI_of, ← iI_of] at key
  have eh := hS.2.2.2.2.2.1
  have ei := hS.1
  have ec := hS.2.1
  subst eh
  subst ei
  subst ec
  exact key fun bs bv => ans _ _ _ _
theorem sr_climb {s : Nat → Nat} (hW : WF s) {p1 : Int32} {p2 : Int32} {t_thrown : Int32} {t_climbSteps : Int32} {t_ahead : Int32} {t_row : Nat → Int32} {Q : Int32 → Int32 → Int32 → Int32 → Prop} (hN : neP s t_row) (hQ : ∀ cs ah, Q (if wgt p1 p2 then iI ((CLM s p1.toInt p2.toInt).1 : Nat) else 0) (if wgt p1 p2 then 0 else 1) cs ah) : wp_X11_climb p1 p2 t_thrown t_climbSteps t_ahead t_row Q := by
  have h5 := hW.2.2.2.2.2.1
  have hp0 := wf_pow hW
  have e5 : (5 : Int32).toNatClampNeg = 5 := by decide
  have i5 : vp_in 5 66 := by rw [vp_in_iff]; decide
  unfold wp_X11_climb
  refine sp_areW (sp_passes ?_)
  by_cases h : wgt p1 p2
  · simp only [if_pos h] at hQ
    rw [if_pos h]
    refine ⟨fun z => absurd z (by decide), fun _ => ?_⟩
    have hpq : 0 ≤ p1.toInt ∧ p1.toInt ≤ 99 ∧ 0 ≤ p2.toInt ∧ p2.toInt ≤ 99 := ⟨h.1, h.2.1, h.2.2.1, h.2.2.2.1⟩
    unfold wp_X11_climbed
    refine ⟨i5, fun v hv => ⟨4097, ?_⟩⟩
    rw [e5, hN.1 5 (by omega)] at hv
    subst hv
    have hmu : muv s p1.toInt p2.toInt (s 5) ≤ 4096 := Nat.le_trans (fb_ct_le _ _) (by omega)
    have key := fun {Q : Int32 → Int32 → Int32 → Prop} (hQ : ∀ ah, Q (iI ((CLM s p1.toInt p2.toInt).1 : Nat)) (iI ((CLM s p1.toInt p2.toInt).2 : Nat)) ah) => sl_climbed hW hpq hN hQ 4096 (s 5) 0 t_ahead h5 (by omega) hmu rfl
    rw [← iI_of, ← iI_of] at key
    exact key fun ah => hQ _ _
  · simp only [if_neg h] at hQ
    rw [if_neg h]
    exact ⟨fun _ => hQ _ _, fun z => absurd rfl z⟩
theorem kyP_su5 {s : Nat → Nat} {v : Nat} : kyP (su s 5 v) = kyP s := by
  funext q
  unfold kyP
  rw [su_ne (show (0 : Nat) ≠ 5 by omega), sm_su (by omega), sm_su (by omega)]
theorem HAS_su5 {s : Nat → Nat} {v : Nat} : HAS (su s 5 v) = HAS s := by
  funext w
  show has_ (su s 5 v) (2 ^ su s 5 v 0) w = has_ s (2 ^ s 0) w
  unfold has_
  rw [su_ne (show (0 : Nat) ≠ 5 by omega), su_ne (show (1 : Nat) ≠ 5 by omega), kyP_su5]
  simp only [rf_su5]
theorem lfP_su5 {s : Nat → Nat} {v : Nat} {lf c : Int32} {ly sz : Nat → Int32} (h : lfP s lf c ly sz) : lfP (su s 5 v) lf c ly sz := by
  rcases h with h | ⟨h, h1, h2, h3⟩
  · exact Or.inl h
  · refine Or.inr ⟨h, ?_⟩
    have e : LC (su s 5 v) = LC s := by unfold LC; rw [HAS_su5]
    unfold lyP
    rw [e, HAS_su5, kyP_su5, su_ne (show (0 : Nat) ≠ 5 by omega), su_ne (show (1 : Nat) ≠ 5 by omega)]
    refine ⟨h1, h2, fun q hq => ?_⟩
    rw [rf_su5]
    exact h3 q hq
theorem seP_su5 {s : Nat → Nat} {v : Nat} {sf c : Int32} {f t d : Nat → Int32} (h : seP (HH s) sf c f t d) : seP (HH (su s 5 v)) sf c f t d := by rw [HH_su5]; exact h
theorem txP_le {n m : Nat} {by_ : Nat → Int} {i : Nat → Int32} (h : txP n by_ i) (hm : m ≤ n) : txP m by_ i := ⟨Nat.le_trans hm h.1, h.2.1, fun p hp => h.2.2 p (Nat.lt_of_lt_of_le hp hm)⟩
theorem inP_le {n m : Nat} {by_ : Nat → Int} {i : Nat → Int32} (h : inP n by_ i) (hm : m ≤ n) : inP m by_ i := ⟨txP_le h.1 hm, h.2⟩
theorem lgc {f : Nat → Int64} {x : Int64} : lg_cmp (vp_updL f (0 : Int32).toNatClampNeg x (0 : Int32).toNatClampNeg) x = 0 := by
  show lg_cmp (if (0 : Int32).toNatClampNeg = (0 : Int32).toNatClampNeg then x else f _) x = 0
  rw [if_pos rfl]
  unfold lg_cmp
  simp
theorem WF_bar {s : Nat → Nat} (hW : WF s) {i j : Nat} (hi : i < s 0) (hj : j < s 0) {on : Bool} : WF (barS s i j on) := by
  have a := (hW.2.2.2.2.2.2 i hi).2.2.2.1
  have b := (hW.2.2.2.2.2.2 j hj).2.2.2.1
  have W1 : WF (su s (6 + 5 * i + 3) (tb (s (6 + 5 * i + 3)) j on)) := WF_row hW (Or.inr ⟨by omega, by omega, tb_lt a hj⟩)
  refine WF_row W1 (Or.inr ⟨by omega, by omega, ?_⟩)
  rw [su_ne (by omega)]
  exact tb_lt b hi
theorem WF_need {s : Nat → Nat} (hW : WF s) {i j : Nat} (hi : i < s 0) (hj : j < s 0) {on : Bool} : WF (needS s i j on) :=
  WF_row hW (Or.inr ⟨by omega, by omega, tb_lt (hW.2.2.2.2.2.2 i hi).2.2.2.2 hj⟩)
theorem WF_h {s : Nat → Nat} (hW : WF s) {v : Nat} (h : v < 2 ^ s 0) : WF (su s 5 v) := WF_c hW (Or.inr (Or.inr (Or.inr (Or.inr ⟨rfl, h⟩))))
theorem kpS_WF {K : Nat → Option (Nat → Nat)} (h : ∀ k t, K k = some t → WF t) {s : Nat → Nat} (hW : WF s) {i : Nat} : ∀ k t, kpS K i s k = some t → WF t := by
  intro k t e
  unfold kpS at e
  split at e
  · rw [← Option.some.inj e]; exact hW
  · exact h k t e
/-- class and reference tell of one and the same desk -/
abbrev INV (tx_inputLength : Int32) (tx_parseCode : Int32) (tx_parsePosition : Int32) (tx_frontierFresh : Int32) (tx_searchFresh : Int32) (tx_layersFresh : Int32) (tx_output_length : Int32) (tx_output_bytes : Nat → Int32) (to : Nat → Int64) (tm_thrown : Int32) (tm_allowedMany : Int32) (tm_pointMany : Int32) (tm_cornerMany : Int32) (tm_stepMany : Int32) (tm_queued : Int32) (tm_pairMany : Int32) (tm_layerMany : Int32) (tm_climbSteps : Int32) (tm_ahead : Int32) (tm_inputSize : Int32) (tm_textSize : Int32) (tm_next : Int32) (tm_start : Int32) (tm_token : Int32) (tm_value : Int32) (tm_errorFound : Int32) (tm_errorPlace : Int32) (tm_remembered : Int32) (tm_outputSize : Int32) (tm_output : Nat → Int32) (tx_now_items : Int32) (tx_now_capacity : Int32) (tx_now_limit : Int32) (tx_now_mustSet : Int32) (tx_now_neverSet : Int32) (tx_now_hand : Int32) (tx_choices_sets : Int32) (tx_choices_limit : Int32) (tx_choices_mustSet : Int32) (tx_choices_neverSet : Int32) (tx_choices_weight : Nat → Int32) (tx_now_weight : Nat → Int32) (tx_choices_gain : Nat → Int32) (tx_now_gain : Nat → Int32) (tx_choices_joy : Nat → Int32) (tx_now_joy : Nat → Int32) (tx_choices_barred : Nat → Int32) (tx_now_bars : Nat → Int32) (tx_choices_needed : Nat → Int32) (tx_now_needs : Nat → Int32) (tx_stairs_allowedCount : Int32) (tx_stairs_joyAt : Nat → Int32) (tx_frontier_size : Int32) (tx_frontier_vertexCount : Int32) (tx_frontier_allowedCount : Int32) (tx_frontier_areaBelow : Int32) (tx_frontier_pointAt : Nat → Int32) (tx_frontier_gain : Nat → Int32) (tx_frontier_joy : Nat → Int32) (tx_frontier_choice : Nat → Int32) (tx_frontier_times : Nat → Int32) (tx_frontier_light : Nat → Int32) (tx_frontier_mark : Nat → Int32) (tx_frontier_vertexPoint : Nat → Int32) (tm_joyAt : Nat → Int32) (tm_net : Nat → Int32) (tm_pointAt : Nat → Int32) (tm_pointGain : Nat → Int32) (tm_pointJoy : Nat → Int32) (tm_pointTimes : Nat → Int32) (tm_pointSet : Nat → Int32) (tm_pointLight : Nat → Int32) (tm_corner : Nat → Int32) (tx_past_count : Int32) (tm_past : Nat → Int32) (tx_slotUsed : Nat → Int32) (tm_isKept : Nat → Int32) (tm_slots : Nat → Int32) (tx_climber_at : Int32) (tx_climber_steps : Int32) (tx_climber_bestSet : Int32) (tx_climber_bestValue : Int32) (tx_layering_count : Int32) (tx_layering_firstOfJoy : Nat → Int32) (tx_layering_layer : Nat → Int32) (tx_layering_nextOfJoy : Nat → Int32) (tx_layering_firstOfGain : Nat → Int32) (tx_layering_nextOfGain : Nat → Int32) (tx_layering_topJoy : Nat → Int32) (tx_layering_size : Nat → Int32) (tm_pairs : Nat → Int32) (tm_layerJoy : Nat → Int32) (tm_layerOfPair : Nat → Int32) (tx_frontier_reached : Nat → Int32) (tx_search_count : Int32) (tx_search_from : Nat → Int32) (tx_search_to : Nat → Int32) (tx_search_found : Nat → Int32) (tm_steps : Nat → Int32) (tx_parser_code : Int32) (tx_parser_place : Int32) (tx_parser_length : Int32) (tx_parser_kind : Int32) (tx_parser_start : Int32) (tx_parser_next : Int32) (tx_parser_value : Int32) (tx_input : Nat → Int32) (tx_parser_text : Nat → Int32) (tx_parser_draft_items : Int32) (tx_parser_draft_capacity : Int32) (tx_parser_draft_limit : Int32) (tx_parser_draft_mustSet : Int32) (tx_parser_draft_neverSet : Int32) (tx_parser_draft_hand : Int32) (tx_parser_draft_weight : Nat → Int32) (tx_parser_draft_gain : Nat → Int32) (tx_parser_draft_joy : Nat → Int32) (tx_parser_draft_bars : Nat → Int32) (tx_parser_draft_needs : Nat → Int32) (tm_draft : Nat → Int32) (tm_input : Nat → Int32) (tx_past_setups_pq : Nat → Nat → Nat) (tx_past_setups_pi : Nat → Nat → Int32) (tx_past_setups_pr : Nat → Nat → Nat → Int32) (tx_slots_pi : Nat → Nat → Int32) (tx_slots_pr : Nat → Nat → Nat → Int32) : Prop := ∃ (s : Nat → Nat) (ps : List (Nat → Nat)) (K : Nat → Option (Nat → Nat)) (n : Nat) (by_ : Nat → Int) (cc pp : Int) (l : List Int32),
  (WF s ∧ (∀ t ∈ ps, WF t) ∧ ps.length ≤ 8 ∧ (∀ k t, K k = some t → WF t) ∧ l.length ≤ 15457) ∧
  (suP s tx_now_items tx_now_capacity tx_now_limit tx_now_mustSet tx_now_neverSet tx_now_hand tx_now_weight tx_now_gain tx_now_joy tx_now_bars tx_now_needs ∧ paP ps tx_past_count tx_past_setups_pi tx_past_setups_pr ∧ slC K tx_slotUsed tx_slots_pi tx_slots_pr ∧ (tx_inputLength = iI (n : Nat) ∧ inP n by_ tx_input) ∧ (tx_parseCode = iI cc ∧ tx_parsePosition = iI pp) ∧ outP l tx_output_length tx_output_bytes ∧
    dkP s tx_frontierFresh tx_choices_sets tx_choices_limit tx_choices_mustSet tx_choices_neverSet tx_choices_weight tx_choices_gain tx_choices_joy tx_choices_barred tx_choices_needed tx_frontier_size tx_frontier_vertexCount tx_frontier_allowedCount tx_frontier_areaBelow tx_frontier_pointAt tx_frontier_gain tx_frontier_joy tx_frontier_choice tx_frontier_times tx_frontier_light tx_frontier_mark tx_frontier_vertexPoint ∧ seP (HH s) tx_searchFresh tx_search_count tx_search_from tx_search_to tx_search_found ∧ lfP s tx_layersFresh tx_layering_count tx_layering_layer tx_layering_size) ∧
  (neP s tm_net ∧ prP ps tm_remembered tm_past ∧ slR K tm_isKept tm_slots ∧ (tm_inputSize = iI (n : Nat) ∧ txP n by_ tm_input) ∧ (tm_errorFound = iI cc ∧ tm_errorPlace = iI pp) ∧ outP l tm_outputSize tm_output)
