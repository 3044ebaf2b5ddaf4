/-! THE STEPS: cache and questions -/
def seP (h : Nat → Int) (sf c : Int32) (f t d : Nat → Int32) : Prop := sf = 0 ∨ sf = 1 ∧ runP h c f t d
def DS (s : Nat → Nat) (P : Int32 → Int32 → Int32 → Int32 → Int32 → Int32 → (Nat → Int32) → (Nat → Int32) → (Nat → Int32) → (Nat → Int32) → (Nat → Int32) → Int32 → (Nat → Int32) → Int32 → Int32 → Int32 → Int32 → (Nat → Int32) → (Nat → Int32) → (Nat → Int32) → (Nat → Int32) → (Nat → Int32) → (Nat → Int32) → (Nat → Int32) → (Nat → Int32) → Int32 → (Nat → Int32) → (Nat → Int32) → (Nat → Int32) → Prop) : Prop := ∀ ff sf sets lim must nev cw cg cj cb cn sac sja size vc ac area pa g j ch ti li mk vp sc sfr sto sfd, dkP s ff sets lim must nev cw cg cj cb cn size vc ac area pa g j ch ti li mk vp → seP (HH s) sf sc sfr sto sfd → P ff sf sets lim must nev cw cg cj cb cn sac sja size vc ac area pa g j ch ti li mk vp sc sfr sto sfd
theorem sp_refreshSearch {s : Nat → Nat} (hW : WF s) {hand : Int32} {t_frontierFresh : Int32} {t_searchFresh : Int32} {t_now_items : Int32} {t_now_capacity : Int32} {t_now_limit : Int32} {t_now_mustSet : Int32} {t_now_neverSet : Int32} {t_choices_sets : Int32} {t_choices_limit : Int32} {t_choices_mustSet : Int32} {t_choices_neverSet : Int32} {t_choices_weight : Nat → Int32} {t_now_weight : Nat → Int32} {t_choices_gain : Nat → Int32} {t_now_gain : Nat → Int32} {t_choices_joy : Nat → Int32} {t_now_joy : Nat → Int32} {t_choices_barred : Nat → Int32} {t_now_bars : Nat → Int32} {t_choices_needed : Nat → Int32} {t_now_needs : Nat → Int32} {t_stairs_allowedCount : Int32} {t_stairs_joyAt : Nat → Int32} {t_frontier_size : Int32} {t_frontier_vertexCount : Int32} {t_frontier_allowedCount : Int32} {t_frontier_areaBelow : Int32} {t_frontier_pointAt : Nat → Int32} {t_frontier_gain : Nat → Int32} {t_frontier_joy : Nat → Int32} {t_frontier_choice : Nat → Int32} {t_frontier_times : Nat → Int32} {t_frontier_light : Nat → Int32} {t_frontier_mark : Nat → Int32} {t_frontier_vertexPoint : Nat → Int32} {t_search_count : Int32} {t_search_from : Nat → Int32} {t_search_to : Nat → Int32} {t_search_found : Nat → Int32} {Q : Int32 → Int32 → Int32 → Int32 → Int32 → Int32 → (Nat → Int32) → (Nat → Int32) → (Nat → Int32) → (Nat → Int32) → (Nat → Int32) → Int32 → (Nat → Int32) → Int32 → Int32 → Int32 → Int32 → (Nat → Int32) → (Nat → Int32) → (Nat → Int32) → (Nat → Int32) → (Nat → Int32) → (Nat → Int32) → (Nat → Int32) → (Nat → Int32) → Int32 → (Nat → Int32) → (Nat → Int32) → (Nat → Int32) → Prop} (hS : suP s t_now_items t_now_capacity t_now_limit t_now_mustSet t_now_neverSet hand t_now_weight t_now_gain t_now_joy t_now_bars t_now_needs) (hD : dkP s t_frontierFresh t_choices_sets t_choices_limit t_choices_mustSet t_choices_neverSet t_choices_weight t_choices_gain t_choices_joy t_choices_barred t_choices_needed t_frontier_size t_frontier_vertexCount t_frontier_allowedCount t_frontier_areaBelow t_frontier_pointAt t_frontier_gain t_frontier_joy t_frontier_choice t_frontier_times t_frontier_light t_frontier_mark t_frontier_vertexPoint) (hE : seP (HH s) t_searchFresh t_search_count t_search_from t_search_to t_search_found)
    (hQ : ∀ sets lim must nev cw cg cj cb cn sac sja size vc ac area pa g j ch ti li mk vp sc sfr sto sfd, chP s sets lim must nev cw cg cj cb cn → frP s size vc ac area pa g j ch ti li mk vp → runP (HH s) sc sfr sto sfd → Q 1 1 sets lim must nev cw cg cj cb cn sac sja size vc ac area pa g j ch ti li mk vp sc sfr sto sfd) : wp_X10_refreshSearch t_frontierFresh t_searchFresh t_now_items t_now_capacity t_now_limit t_now_mustSet t_now_neverSet t_choices_sets t_choices_limit t_choices_mustSet t_choices_neverSet t_choices_weight t_now_weight t_choices_gain t_now_gain t_choices_joy t_now_joy t_choices_barred t_now_bars t_choices_needed t_now_needs t_stairs_allowedCount t_stairs_joyAt t_frontier_size t_frontier_vertexCount t_frontier_allowedCount t_frontier_areaBelow t_frontier_pointAt t_frontier_gain t_frontier_joy t_frontier_choice t_frontier_times t_frontier_light t_frontier_mark t_frontier_vertexPoint t_search_count t_search_from t_search_to t_search_found Q := by
  unfold wp_X10_refreshSearch
  refine sp_refresh hW hS hD fun sets lim must nev cw cg cj cb cn sac sja size vc ac area pa g j ch ti li mk vp hP hF => ⟨fun c => ?_, fun c => ?_⟩
  · rcases hE with e | ⟨e, hR⟩
    · exact absurd e c
    · rw [e]
      exact hQ sets lim must nev cw cg cj cb cn sac sja size vc ac area pa g j ch ti li mk vp _ _ _ _ hP hF hR
  · exact sp_run (HH_stP hW) hF.2.2.2.2.1 hF.1 fun sc sfr sto sfd hR => hQ sets lim must nev cw cg cj cb cn sac sja size vc ac area pa g j ch ti li mk vp _ _ _ _ hP hF hR
theorem sq_steps {s : Nat → Nat} (hW : WF s) {hand : Int32} {t_frontierFresh : Int32} {t_searchFresh : Int32} {t_now_items : Int32} {t_now_capacity : Int32} {t_now_limit : Int32} {t_now_mustSet : Int32} {t_now_neverSet : Int32} {t_choices_sets : Int32} {t_choices_limit : Int32} {t_choices_mustSet : Int32} {t_choices_neverSet : Int32} {t_choices_weight : Nat → Int32} {t_now_weight : Nat → Int32} {t_choices_gain : Nat → Int32} {t_now_gain : Nat → Int32} {t_choices_joy : Nat → Int32} {t_now_joy : Nat → Int32} {t_choices_barred : Nat → Int32} {t_now_bars : Nat → Int32} {t_choices_needed : Nat → Int32} {t_now_needs : Nat → Int32} {t_stairs_allowedCount : Int32} {t_stairs_joyAt : Nat → Int32} {t_frontier_size : Int32} {t_frontier_vertexCount : Int32} {t_frontier_allowedCount : Int32} {t_frontier_areaBelow : Int32} {t_frontier_pointAt : Nat → Int32} {t_frontier_gain : Nat → Int32} {t_frontier_joy : Nat → Int32} {t_frontier_choice : Nat → Int32} {t_frontier_times : Nat → Int32} {t_frontier_light : Nat → Int32} {t_frontier_mark : Nat → Int32} {t_frontier_vertexPoint : Nat → Int32} {t_search_count : Int32} {t_search_from : Nat → Int32} {t_search_to : Nat → Int32} {t_search_found : Nat → Int32} {Q : Int32 → Int32 → Int32 → Int32 → Int32 → Int32 → Int32 → (Nat → Int32) → (Nat → Int32) → (Nat → Int32) → (Nat → Int32) → (Nat → Int32) → Int32 → (Nat → Int32) → Int32 → Int32 → Int32 → Int32 → (Nat → Int32) → (Nat → Int32) → (Nat → Int32) → (Nat → Int32) → (Nat → Int32) → (Nat → Int32) → (Nat → Int32) → (Nat → Int32) → Int32 → (Nat → Int32) → (Nat → Int32) → (Nat → Int32) → Prop} (hS : suP s t_now_items t_now_capacity t_now_limit t_now_mustSet t_now_neverSet hand t_now_weight t_now_gain t_now_joy t_now_bars t_now_needs) (hD : dkP s t_frontierFresh t_choices_sets t_choices_limit t_choices_mustSet t_choices_neverSet t_choices_weight t_choices_gain t_choices_joy t_choices_barred t_choices_needed t_frontier_size t_frontier_vertexCount t_frontier_allowedCount t_frontier_areaBelow t_frontier_pointAt t_frontier_gain t_frontier_joy t_frontier_choice t_frontier_times t_frontier_light t_frontier_mark t_frontier_vertexPoint) (hE : seP (HH s) t_searchFresh t_search_count t_search_from t_search_to t_search_found) (hQ : DS s (Q (iI (SX (HH s) : Nat)))) : wp_X10_steps t_frontierFresh t_searchFresh t_now_items t_now_capacity t_now_limit t_now_mustSet t_now_neverSet t_choices_sets t_choices_limit t_choices_mustSet t_choices_neverSet t_choices_weight t_now_weight t_choices_gain t_now_gain t_choices_joy t_now_joy t_choices_barred t_now_bars t_choices_needed t_now_needs t_stairs_allowedCount t_stairs_joyAt t_frontier_size t_frontier_vertexCount t_frontier_allowedCount t_frontier_areaBelow t_frontier_pointAt t_frontier_gain t_frontier_joy t_frontier_choice t_frontier_times t_frontier_light t_frontier_mark t_frontier_vertexPoint t_search_count t_search_from t_search_to t_search_found Q := by
  unfold wp_X10_steps
  refine sp_refreshSearch hW hS hD hE fun sets lim must nev cw cg cj cb cn sac sja size vc ac area pa g j ch ti li mk vp sc sfr sto sfd hP hF hR => ?_
  have := hQ 1 1 sets lim must nev cw cg cj cb cn sac sja size vc ac area pa g j ch ti li mk vp sc sfr sto sfd (dkP_1 hP hF) (Or.inr ⟨rfl, hR⟩)
  rw [← hR.1] at this
  exact this
/-- the first step's point -/
def kne (h : Nat → Int) : Int := if SX h = 0 then -1 else SRd h (SX h) 0
theorem SX_le {h : Nat → Int} (hs : stP h) : SX h ≤ 2375 := by
  have key : ∀ (d x : Nat), x + d = 2376 → SRI h x → sfx h d x ≤ 2375 := by
    intro d
    induction d with
    | zero => intro x hx hI; have := SRI_le hI; have := hI.1; omega
    | succ d ih =>
      intro x hx hI
      have := SRI_le hI
      have := hI.1
      simp only [sfx]
      split
      · omega
      · exact ih (x + 1) (by omega) (SRI_step hs hI (by omega))
  exact key 2376 0 (by omega) (SRI_0 hs)
theorem sq_knee {s : Nat → Nat} (hW : WF s) {hand : Int32} {t_frontierFresh : Int32} {t_searchFresh : Int32} {t_now_items : Int32} {t_now_capacity : Int32} {t_now_limit : Int32} {t_now_mustSet : Int32} {t_now_neverSet : Int32} {t_choices_sets : Int32} {t_choices_limit : Int32} {t_choices_mustSet : Int32} {t_choices_neverSet : Int32} {t_choices_weight : Nat → Int32} {t_now_weight : Nat → Int32} {t_choices_gain : Nat → Int32} {t_now_gain : Nat → Int32} {t_choices_joy : Nat → Int32} {t_now_joy : Nat → Int32} {t_choices_barred : Nat → Int32} {t_now_bars : Nat → Int32} {t_choices_needed : Nat → Int32} {t_now_needs : Nat → Int32} {t_stairs_allowedCount : Int32} {t_stairs_joyAt : Nat → Int32} {t_frontier_size : Int32} {t_frontier_vertexCount : Int32} {t_frontier_allowedCount : Int32} {t_frontier_areaBelow : Int32} {t_frontier_pointAt : Nat → Int32} {t_frontier_gain : Nat → Int32} {t_frontier_joy : Nat → Int32} {t_frontier_choice : Nat → Int32} {t_frontier_times : Nat → Int32} {t_frontier_light : Nat → Int32} {t_frontier_mark : Nat → Int32} {t_frontier_vertexPoint : Nat → Int32} {t_search_count : Int32} {t_search_from : Nat → Int32} {t_search_to : Nat → Int32} {t_search_found : Nat → Int32} {Q : Int32 → Int32 → Int32 → Int32 → Int32 → Int32 → Int32 → (Nat → Int32) → (Nat → Int32) → (Nat → Int32) → (Nat → Int32) → (Nat → Int32) → Int32 → (Nat → Int32) → Int32 → Int32 → Int32 → Int32 → (Nat → Int32) → (Nat → Int32) → (Nat → Int32) → (Nat → Int32) → (Nat → Int32) → (Nat → Int32) → (Nat → Int32) → (Nat → Int32) → Int32 → (Nat → Int32) → (Nat → Int32) → (Nat → Int32) → Prop} (hS : suP s t_now_items t_now_capacity t_now_limit t_now_mustSet t_now_neverSet hand t_now_weight t_now_gain t_now_joy t_now_bars t_now_needs) (hD : dkP s t_frontierFresh t_choices_sets t_choices_limit t_choices_mustSet t_choices_neverSet t_choices_weight t_choices_gain t_choices_joy t_choices_barred t_choices_needed t_frontier_size t_frontier_vertexCount t_frontier_allowedCount t_frontier_areaBelow t_frontier_pointAt t_frontier_gain t_frontier_joy t_frontier_choice t_frontier_times t_frontier_light t_frontier_mark t_frontier_vertexPoint) (hE : seP (HH s) t_searchFresh t_search_count t_search_from t_search_to t_search_found) (hQ : DS s (Q (iI (kne (HH s))))) : wp_X10_knee t_frontierFresh t_searchFresh t_now_items t_now_capacity t_now_limit t_now_mustSet t_now_neverSet t_choices_sets t_choices_limit t_choices_mustSet t_choices_neverSet t_choices_weight t_now_weight t_choices_gain t_now_gain t_choices_joy t_now_joy t_choices_barred t_now_bars t_choices_needed t_now_needs t_stairs_allowedCount t_stairs_joyAt t_frontier_size t_frontier_vertexCount t_frontier_allowedCount t_frontier_areaBelow t_frontier_pointAt t_frontier_gain t_frontier_joy t_frontier_choice t_frontier_times t_frontier_light t_frontier_mark t_frontier_vertexPoint t_search_count t_search_from t_search_to t_search_found Q := by
  have hx := SX_le (HH_stP hW)
  unfold wp_X10_knee
  refine sp_refreshSearch hW hS hD hE fun sets lim must nev cw cg cj cb cn sac sja size vc ac area pa g j ch ti li mk vp sc sfr sto sfd hP hF hR => ?_
  have ans := hQ 1 1 sets lim must nev cw cg cj cb cn sac sja size vc ac area pa g j ch ti li mk vp sc sfr sto sfd (dkP_1 hP hF) (Or.inr ⟨rfl, hR⟩)
  have z : sc ≤ 0 ↔ SX (HH s) = 0 := by rw [hR.1, iI_lit 0, iI_le (by omega) (by omega) (by omega) (by omega)]; omega
  unfold kne at ans
  rw [z]
  refine ⟨fun c => ?_, fun c => ⟨by rw [vp_in_iff]; decide, ?_⟩⟩
  · rw [if_pos c] at ans
    rw [iI_m1]
    exact ans
  · rw [if_neg c] at ans
    rw [show (0 : Int32).toNatClampNeg = 0 from by decide, (hR.2 0 (by omega)).2.2]
    exact ans
theorem sr_steps {s : Nat → Nat} (hW : WF s) {t_thrown : Int32} {t_allowedMany : Int32} {t_pointMany : Int32} {t_stepMany : Int32} {t_queued : Int32} {t_joyAt : Nat → Int32} {t_row : Nat → Int32} {t_pointAt : Nat → Int32} {t_pointGain : Nat → Int32} {t_pointJoy : Nat → Int32} {t_pointTimes : Nat → Int32} {t_steps : Nat → Int32} {Q : Int32 → Int32 → Int32 → Int32 → Int32 → Int32 → (Nat → Int32) → (Nat → Int32) → (Nat → Int32) → (Nat → Int32) → (Nat → Int32) → (Nat → Int32) → Prop} (hN : neP s t_row) (hQ : ∀ am pm sm qu ja pa g j ti st, Q (iI (SX (HH s) : Nat)) 0 am pm sm qu ja pa g j ti st) : wp_X11_steps t_thrown t_allowedMany t_pointMany t_stepMany t_queued t_joyAt t_row t_pointAt t_pointGain t_pointJoy t_pointTimes t_steps Q := by
  unfold wp_X11_steps
  refine sp_search hW hN fun am pm sm qu ja pa g j ti st hM h1 h2 => ?_
  have := hQ am pm sm qu ja pa g j ti st
  rw [← h1] at this
  exact this
theorem sr_knee {s : Nat → Nat} (hW : WF s) {t_thrown : Int32} {t_allowedMany : Int32} {t_pointMany : Int32} {t_stepMany : Int32} {t_queued : Int32} {t_joyAt : Nat → Int32} {t_row : Nat → Int32} {t_pointAt : Nat → Int32} {t_pointGain : Nat → Int32} {t_pointJoy : Nat → Int32} {t_pointTimes : Nat → Int32} {t_steps : Nat → Int32} {Q : Int32 → Int32 → Int32 → Int32 → Int32 → Int32 → (Nat → Int32) → (Nat → Int32) → (Nat → Int32) → (Nat → Int32) → (Nat → Int32) → (Nat → Int32) → Prop} (hN : neP s t_row) (hQ : ∀ am pm sm qu ja pa g j ti st, Q (iI (kne (HH s))) 0 am pm sm qu ja pa g j ti st) : wp_X11_knee t_thrown t_allowedMany t_pointMany t_stepMany t_queued t_joyAt t_row t_pointAt t_pointGain t_pointJoy t_pointTimes t_steps Q := by
  have hx := SX_le (HH_stP hW)
  unfold wp_X11_knee
  refine sp_search hW hN fun am pm sm qu ja pa g j ti st hM h1 h2 => ?_
  have ans := hQ am pm sm qu ja pa g j ti st
  have z : sm = 0 ↔ SX (HH s) = 0 := by rw [h1, iI_lit 0, iI_eq (by omega) (by omega) (by omega) (by omega)]; omega
  unfold kne at ans
  rw [z]
  refine ⟨fun c => ⟨by rw [vp_in_iff]; decide, ?_⟩, fun c => ?_⟩
  · rw [if_neg c] at ans
    have e := (h2 0 (by omega)).2.2
    rw [show 3 * 0 + 2 = 2 from rfl] at e
    rw [show (2 : Int32).toNatClampNeg = 2 from by decide, e]
    exact ans
  · rw [if_pos c] at ans
    rw [iI_m1]
    exact ans
