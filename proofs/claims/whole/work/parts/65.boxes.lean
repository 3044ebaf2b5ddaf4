/-! BOXES: fullest; nearTo, apart -/
def bxv (h : Nat → Int) (k : Nat) : Int := (VP h (k + 1) : Int) - VP h k - 1
theorem bxv_rng {h : Nat → Int} {k : Nat} (hk : k + 1 < VC h) : 0 ≤ bxv h k ∧ bxv h k ≤ 1188 := by
  have h1 := VP_mono (h := h) (k := k) (l := k + 1) (by omega) hk
  have h2 := VP_lt (h := h) (k := k + 1) hk
  have hN := PN_le h
  unfold bxv
  omega
theorem sl_fullestC {s : Nat → Nat} (hW : WF s) {t_now_items : Int32} {t_now_capacity : Int32} {t_now_limit : Int32} {t_now_mustSet : Int32} {t_now_neverSet : Int32} {t_now_weight : Nat → Int32} {t_now_gain : Nat → Int32} {t_now_joy : Nat → Int32} {t_now_bars : Nat → Int32} {t_now_needs : Nat → Int32} {t_frontierFresh : Int32} {t_choices_sets : Int32} {t_choices_limit : Int32} {t_choices_mustSet : Int32} {t_choices_neverSet : Int32} {t_choices_weight : Nat → Int32} {t_choices_gain : Nat → Int32} {t_choices_joy : Nat → Int32} {t_choices_barred : Nat → Int32} {t_choices_needed : Nat → Int32} {t_stairs_allowedCount : Int32} {t_stairs_joyAt : Nat → Int32} {t_frontier_size : Int32} {t_frontier_vertexCount : Int32} {t_frontier_allowedCount : Int32} {t_frontier_areaBelow : Int32} {t_frontier_pointAt : Nat → Int32} {t_frontier_gain : Nat → Int32} {t_frontier_joy : Nat → Int32} {t_frontier_choice : Nat → Int32} {t_frontier_times : Nat → Int32} {t_frontier_light : Nat → Int32} {t_frontier_mark : Nat → Int32} {t_frontier_vertexPoint : Nat → Int32} {Q : Int32 → Int32 → Int32 → Int32 → Int32 → Int32 → (Nat → Int32) → (Nat → Int32) → (Nat → Int32) → (Nat → Int32) → (Nat → Int32) → Int32 → (Nat → Int32) → Int32 → Int32 → Int32 → Int32 → (Nat → Int32) → (Nat → Int32) → (Nat → Int32) → (Nat → Int32) → (Nat → Int32) → (Nat → Int32) → (Nat → Int32) → (Nat → Int32) → Prop} (hF : frP s t_frontier_size t_frontier_vertexCount t_frontier_allowedCount t_frontier_areaBelow t_frontier_pointAt t_frontier_gain t_frontier_joy t_frontier_choice t_frontier_times t_frontier_light t_frontier_mark t_frontier_vertexPoint) (hQ : Q (iI (gb (bxv (HH s)) (VC (HH s) - 1))) t_frontierFresh t_choices_sets t_choices_limit t_choices_mustSet t_choices_neverSet t_choices_weight t_choices_gain t_choices_joy t_choices_barred t_choices_needed t_stairs_allowedCount t_stairs_joyAt t_frontier_size t_frontier_vertexCount t_frontier_allowedCount t_frontier_areaBelow t_frontier_pointAt t_frontier_gain t_frontier_joy t_frontier_choice t_frontier_times t_frontier_light t_frontier_mark t_frontier_vertexPoint) :
    ∀ (d k : Nat), k + d = VC (HH s) - 1 → wp_X10_fullest_L10 t_now_items t_now_capacity t_now_limit t_now_mustSet t_now_neverSet t_now_weight t_now_gain t_now_joy t_now_bars t_now_needs t_frontierFresh t_choices_sets t_choices_limit t_choices_mustSet t_choices_neverSet t_choices_weight t_choices_gain t_choices_joy t_choices_barred t_choices_needed t_stairs_allowedCount t_stairs_joyAt t_frontier_size t_frontier_vertexCount t_frontier_allowedCount t_frontier_areaBelow t_frontier_pointAt t_frontier_gain t_frontier_joy t_frontier_choice t_frontier_times t_frontier_light t_frontier_mark t_frontier_vertexPoint Q (d + 1) (iI (gb (bxv (HH s)) k)) (iI (gv (-1) (bxv (HH s)) k)) (iI (k : Nat)) := by
  have hN := PN_le (HH s)
  have hC := VC_le (HH s)
  obtain ⟨v1, v2⟩ := hF.2.2.2.2.2.2.2
  intro d
  induction d with
  | zero =>
    intro k hk
    unfold wp_X10_fullest_L10
    obtain rfl : k = VC (HH s) - 1 := by omega
    have e0 : t_frontier_vertexCount ≤ iI ((VC (HH s) - 1 : Nat) : Int) + 1 := by rw [v1, iI_succ, iI_le (by omega) (by omega) (by omega) (by omega)]; omega
    exact ⟨fun _ => hQ, fun z => absurd e0 z⟩
  | succ d ih =>
    intro k hk
    have nx := ih (k + 1) (by omega)
    have hv := bxv_rng (h := HH s) (k := k) (by omega)
    have hg := gv_rng (v := bxv (HH s)) (i0 := -1) (a := -1) (b := 1188) (n := k) (fun m hm => by have := bxv_rng (h := HH s) (k := m) (by omega); omega) (by omega)
    have p1 := VP_lt (h := HH s) (k := k + 1) (by omega)
    have p0 := VP_lt (h := HH s) (k := k) (by omega)
    unfold wp_X10_fullest_L10
    have e0 : t_frontier_vertexCount ≤ iI ((k + 1 : Nat) : Int) ↔ (VC (HH s) : Int) ≤ ((k + 1 : Nat) : Int) := by rw [v1, iI_le (by omega) (by omega) (by omega) (by omega)]
    have ex : iI (k : Nat) + (1 : Int32) = iI ((k + 1 : Nat) : Int) := iI_succ k
    rw [ex, e0, iI_clN (by omega), iI_clN (by omega), v2 (k + 1) (by omega), v2 k (by omega), iI_sub, iI_lit 1, iI_sub]
    refine ⟨fun z => absurd z (by omega), fun _ => ⟨in_lit (by omega) (by omega), in_lit (by omega) (by omega), fun v hv2 => ?_⟩⟩
    have hv3 : v = iI (bxv (HH s) k) := hv2
    subst hv3
    rw [iI_le (by omega) (by omega) (by omega) (by omega)]
    refine ⟨fun c => ?_, fun c => ?_⟩
    · rw [gb_keep (by omega) c, gv_keep (by omega) c] at nx; exact nx
    · rw [gb_take c, gv_take c] at nx; exact nx
theorem sq_fullest {s : Nat → Nat} (hW : WF s) {hand : Int32} {t_frontierFresh : Int32} {t_now_items : Int32} {t_now_capacity : Int32} {t_now_limit : Int32} {t_now_mustSet : Int32} {t_now_neverSet : Int32} {t_choices_sets : Int32} {t_choices_limit : Int32} {t_choices_mustSet : Int32} {t_choices_neverSet : Int32} {t_choices_weight : Nat → Int32} {t_now_weight : Nat → Int32} {t_choices_gain : Nat → Int32} {t_now_gain : Nat → Int32} {t_choices_joy : Nat → Int32} {t_now_joy : Nat → Int32} {t_choices_barred : Nat → Int32} {t_now_bars : Nat → Int32} {t_choices_needed : Nat → Int32} {t_now_needs : Nat → Int32} {t_stairs_allowedCount : Int32} {t_stairs_joyAt : Nat → Int32} {t_frontier_size : Int32} {t_frontier_vertexCount : Int32} {t_frontier_allowedCount : Int32} {t_frontier_areaBelow : Int32} {t_frontier_pointAt : Nat → Int32} {t_frontier_gain : Nat → Int32} {t_frontier_joy : Nat → Int32} {t_frontier_choice : Nat → Int32} {t_frontier_times : Nat → Int32} {t_frontier_light : Nat → Int32} {t_frontier_mark : Nat → Int32} {t_frontier_vertexPoint : Nat → Int32} {Q : Int32 → Int32 → Int32 → Int32 → Int32 → Int32 → (Nat → Int32) → (Nat → Int32) → (Nat → Int32) → (Nat → Int32) → (Nat → Int32) → Int32 → (Nat → Int32) → Int32 → Int32 → Int32 → Int32 → (Nat → Int32) → (Nat → Int32) → (Nat → Int32) → (Nat → Int32) → (Nat → Int32) → (Nat → Int32) → (Nat → Int32) → (Nat → Int32) → Prop} (hS : suP s t_now_items t_now_capacity t_now_limit t_now_mustSet t_now_neverSet hand t_now_weight t_now_gain t_now_joy t_now_bars t_now_needs) (hD : dkP s t_frontierFresh t_choices_sets t_choices_limit t_choices_mustSet t_choices_neverSet t_choices_weight t_choices_gain t_choices_joy t_choices_barred t_choices_needed t_frontier_size t_frontier_vertexCount t_frontier_allowedCount t_frontier_areaBelow t_frontier_pointAt t_frontier_gain t_frontier_joy t_frontier_choice t_frontier_times t_frontier_light t_frontier_mark t_frontier_vertexPoint) (hQ : DQ s (Q (iI (gb (bxv (HH s)) (VC (HH s) - 1))))) : wp_X10_fullest t_frontierFresh t_now_items t_now_capacity t_now_limit t_now_mustSet t_now_neverSet t_choices_sets t_choices_limit t_choices_mustSet t_choices_neverSet t_choices_weight t_now_weight t_choices_gain t_now_gain t_choices_joy t_now_joy t_choices_barred t_now_bars t_choices_needed t_now_needs t_stairs_allowedCount t_stairs_joyAt t_frontier_size t_frontier_vertexCount t_frontier_allowedCount t_frontier_areaBelow t_frontier_pointAt t_frontier_gain t_frontier_joy t_frontier_choice t_frontier_times t_frontier_light t_frontier_mark t_frontier_vertexPoint Q := by
  unfold wp_X10_fullest
  refine sp_refresh hW hS hD fun sets lim must nev cw cg cj cb cn sac sja size vc ac area pa g j ch ti li mk vp hP hF => ⟨VC (HH s) - 1 + 1, ?_⟩
  have := sl_fullestC hW (t_now_items := t_now_items) (t_now_capacity := t_now_capacity) (t_now_limit := t_now_limit) (t_now_mustSet := t_now_mustSet) (t_now_neverSet := t_now_neverSet) (t_now_weight := t_now_weight) (t_now_gain := t_now_gain) (t_now_joy := t_now_joy) (t_now_bars := t_now_bars) (t_now_needs := t_now_needs) hF (hQ 1 sets lim must nev cw cg cj cb cn sac sja size vc ac area pa g j ch ti li mk vp (dkP_1 hP hF)) (VC (HH s) - 1) 0 (Nat.zero_add _)
  rw [iI_m1, iI_lit 0]
  exact this
theorem sp_between {h : Nat → Int} {vc : Int32} {vp : Nat → Int32} (hV : vxP h vc vp) {k : Nat} (hk : k + 1 < VC h) {Q : Int32 → Prop} (hQ : Q (iI (bxv h k))) : wp_X11_between (iI (k : Nat)) vp Q := by
  have hN := PN_le h
  have hC := VC_le h
  obtain ⟨v1, v2⟩ := hV
  unfold wp_X11_between
  have ex : iI (k : Nat) + (1 : Int32) = iI ((k + 1 : Nat) : Int) := iI_succ k
  rw [ex, iI_clN (by omega), iI_clN (by omega), v2 (k + 1) (by omega), v2 k (by omega), iI_sub, iI_lit 1, iI_sub]
  exact ⟨in_lit (by omega) (by omega), in_lit (by omega) (by omega), hQ⟩
theorem sl_fullestR {s : Nat → Nat} {t_row : Nat → Int32} {t_thrown : Int32} {t_allowedMany : Int32} {t_pointMany : Int32} {t_cornerMany : Int32} {t_joyAt : Nat → Int32} {t_pointAt : Nat → Int32} {t_pointGain : Nat → Int32} {t_pointJoy : Nat → Int32} {t_pointTimes : Nat → Int32} {t_pointSet : Nat → Int32} {t_pointLight : Nat → Int32} {t_corner : Nat → Int32} {Q : Int32 → Int32 → Int32 → Int32 → Int32 → (Nat → Int32) → (Nat → Int32) → (Nat → Int32) → (Nat → Int32) → (Nat → Int32) → (Nat → Int32) → (Nat → Int32) → (Nat → Int32) → Prop} (hV : vxP (HH s) t_cornerMany t_corner) (hQ : Q (iI (gb (bxv (HH s)) (VC (HH s) - 1))) t_thrown t_allowedMany t_pointMany t_cornerMany t_joyAt t_pointAt t_pointGain t_pointJoy t_pointTimes t_pointSet t_pointLight t_corner) :
    ∀ (d k : Nat), k + d = VC (HH s) - 1 → wp_X11_fullest_L13 t_row t_thrown t_allowedMany t_pointMany t_cornerMany t_joyAt t_pointAt t_pointGain t_pointJoy t_pointTimes t_pointSet t_pointLight t_corner Q (d + 1) (iI (gb (bxv (HH s)) k)) (iI (k : Nat)) := by
  have hN := PN_le (HH s)
  have hC := VC_le (HH s)
  have v1 := hV.1
  intro d
  induction d with
  | zero =>
    intro k hk
    unfold wp_X11_fullest_L13
    obtain rfl : k = VC (HH s) - 1 := by omega
    have e0 : t_cornerMany ≤ iI ((VC (HH s) - 1 : Nat) : Int) + 1 := by rw [v1, iI_succ, iI_le (by omega) (by omega) (by omega) (by omega)]; omega
    exact ⟨fun _ => hQ, fun z => absurd e0 z⟩
  | succ d ih =>
    intro k hk
    have nx := ih (k + 1) (by omega)
    have hv := bxv_rng (h := HH s) (k := k) (by omega)
    unfold wp_X11_fullest_L13
    have e0 : t_cornerMany ≤ iI ((k + 1 : Nat) : Int) ↔ (VC (HH s) : Int) ≤ ((k + 1 : Nat) : Int) := by rw [v1, iI_le (by omega) (by omega) (by omega) (by omega)]
    have ex : iI (k : Nat) + (1 : Int32) = iI ((k + 1 : Nat) : Int) := iI_succ k
    rw [ex, e0]
    refine ⟨fun z => absurd z (by omega), fun _ => ?_⟩
    rcases gb_rng (v := bxv (HH s)) (n := k) with e | ⟨m, hm, e⟩
    · rw [gb_first e] at nx
      rw [e]
      exact ⟨fun _ => nx, fun z => absurd iI_m1.symm z⟩
    · have hv2 := bxv_rng (h := HH s) (k := m) (by omega)
      rw [e]
      refine ⟨fun z => absurd z (by rw [iI_m1, iI_eq (by omega) (by omega) (by omega) (by omega)]; omega), fun _ => ?_⟩
      refine sp_between hV (by omega) (sp_between hV (by omega) ?_)
      rw [iI_le (by omega) (by omega) (by omega) (by omega)]
      refine ⟨fun c => ?_, fun c => ?_⟩
      · rw [gb_keep2 e c] at nx; exact nx
      · rw [gb_take2 e c] at nx; exact nx
theorem sr_fullest {s : Nat → Nat} (hW : WF s) {t_thrown : Int32} {t_allowedMany : Int32} {t_pointMany : Int32} {t_cornerMany : Int32} {t_joyAt : Nat → Int32} {t_row : Nat → Int32} {t_pointAt : Nat → Int32} {t_pointGain : Nat → Int32} {t_pointJoy : Nat → Int32} {t_pointTimes : Nat → Int32} {t_pointSet : Nat → Int32} {t_pointLight : Nat → Int32} {t_corner : Nat → Int32} {Q : Int32 → Int32 → Int32 → Int32 → Int32 → (Nat → Int32) → (Nat → Int32) → (Nat → Int32) → (Nat → Int32) → (Nat → Int32) → (Nat → Int32) → (Nat → Int32) → (Nat → Int32) → Prop} (hN : neP s t_row) (hQ : ∀ am pm cm ja pa g j ti ch li co, Q (iI (gb (bxv (HH s)) (VC (HH s) - 1))) 0 am pm cm ja pa g j ti ch li co) : wp_X11_fullest t_thrown t_allowedMany t_pointMany t_cornerMany t_joyAt t_row t_pointAt t_pointGain t_pointJoy t_pointTimes t_pointSet t_pointLight t_corner Q := by
  unfold wp_X11_fullest
  refine sp_layCornersToo hW hN fun am pm cm ja pa g j ti ch li co hM => ⟨VC (HH s) - 1 + 1, ?_⟩
  have := sl_fullestR (s := s) (t_row := t_row) (t_thrown := 0) (t_allowedMany := am) (t_pointMany := pm) (t_joyAt := ja) (t_pointAt := pa) (t_pointGain := g) (t_pointJoy := j) (t_pointTimes := ti) (t_pointSet := ch) (t_pointLight := li) hM.2.2 (hQ _ _ _ _ _ _ _ _ _ _ _) (VC (HH s) - 1) 0 (Nat.zero_add _)
  rw [iI_m1, iI_lit 0]
  exact this
/-- how far a set is from the choice of point n -/
def nrv (s : Nat → Nat) (q n : Nat) : Int := -((pcn (CHo s n ^^^ q) 12 : Nat) : Int)
theorem nrv_rng (s : Nat → Nat) (q n : Nat) : -12 ≤ nrv s q n ∧ nrv s q n ≤ 0 := by
  have := pcn_le (CHo s n ^^^ q) 12
  unfold nrv
  omega
theorem sl_nearToC {s : Nat → Nat} (hW : WF s) {q : Nat} (hq : q < 2 ^ s 0) {t_now_items : Int32} {t_now_capacity : Int32} {t_now_limit : Int32} {t_now_mustSet : Int32} {t_now_neverSet : Int32} {t_now_weight : Nat → Int32} {t_now_gain : Nat → Int32} {t_now_joy : Nat → Int32} {t_now_bars : Nat → Int32} {t_now_needs : Nat → Int32} {x1 : Int32} {t_frontierFresh : Int32} {t_choices_sets : Int32} {t_choices_limit : Int32} {t_choices_mustSet : Int32} {t_choices_neverSet : Int32} {t_choices_weight : Nat → Int32} {t_choices_gain : Nat → Int32} {t_choices_joy : Nat → Int32} {t_choices_barred : Nat → Int32} {t_choices_needed : Nat → Int32} {t_stairs_allowedCount : Int32} {t_stairs_joyAt : Nat → Int32} {t_frontier_size : Int32} {t_frontier_vertexCount : Int32} {t_frontier_allowedCount : Int32} {t_frontier_areaBelow : Int32} {t_frontier_pointAt : Nat → Int32} {t_frontier_gain : Nat → Int32} {t_frontier_joy : Nat → Int32} {t_frontier_choice : Nat → Int32} {t_frontier_times : Nat → Int32} {t_frontier_light : Nat → Int32} {t_frontier_mark : Nat → Int32} {t_frontier_vertexPoint : Nat → Int32} {Q : Int32 → Int32 → Int32 → Int32 → Int32 → Int32 → (Nat → Int32) → (Nat → Int32) → (Nat → Int32) → (Nat → Int32) → (Nat → Int32) → Int32 → (Nat → Int32) → Int32 → Int32 → Int32 → Int32 → (Nat → Int32) → (Nat → Int32) → (Nat → Int32) → (Nat → Int32) → (Nat → Int32) → (Nat → Int32) → (Nat → Int32) → (Nat → Int32) → Prop} {QX : String → Int32 → Int32 → Int32 → Int32 → Int32 → (Nat → Int32) → (Nat → Int32) → (Nat → Int32) → (Nat → Int32) → (Nat → Int32) → Int32 → (Nat → Int32) → Int32 → Int32 → Int32 → Int32 → (Nat → Int32) → (Nat → Int32) → (Nat → Int32) → (Nat → Int32) → (Nat → Int32) → (Nat → Int32) → (Nat → Int32) → (Nat → Int32) → Prop} (hx : x1 = iI (q : Nat)) (hF : frP s t_frontier_size t_frontier_vertexCount t_frontier_allowedCount t_frontier_areaBelow t_frontier_pointAt t_frontier_gain t_frontier_joy t_frontier_choice t_frontier_times t_frontier_light t_frontier_mark t_frontier_vertexPoint) (hQ : Q (iI (gb (nrv s q) (PN (HH s)))) t_frontierFresh t_choices_sets t_choices_limit t_choices_mustSet t_choices_neverSet t_choices_weight t_choices_gain t_choices_joy t_choices_barred t_choices_needed t_stairs_allowedCount t_stairs_joyAt t_frontier_size t_frontier_vertexCount t_frontier_allowedCount t_frontier_areaBelow t_frontier_pointAt t_frontier_gain t_frontier_joy t_frontier_choice t_frontier_times t_frontier_light t_frontier_mark t_frontier_vertexPoint) :
    ∀ (d n : Nat), n + d = PN (HH s) → wp_X10_nearTo_L17 t_now_items t_now_capacity t_now_limit t_now_mustSet t_now_neverSet t_now_weight t_now_gain t_now_joy t_now_bars t_now_needs x1 t_frontierFresh t_choices_sets t_choices_limit t_choices_mustSet t_choices_neverSet t_choices_weight t_choices_gain t_choices_joy t_choices_barred t_choices_needed t_stairs_allowedCount t_stairs_joyAt t_frontier_size t_frontier_vertexCount t_frontier_allowedCount t_frontier_areaBelow t_frontier_pointAt t_frontier_gain t_frontier_joy t_frontier_choice t_frontier_times t_frontier_light t_frontier_mark t_frontier_vertexPoint Q QX (d + 1) (iI (gb (nrv s q) n)) (iI (-gv (-13) (nrv s q) n)) (iI (n : Nat)) := by
  have hN := PN_le (HH s)
  have hp := wf_pow hW
  subst hx
  intro d
  induction d with
  | zero =>
    intro n hn
    unfold wp_X10_nearTo_L17
    obtain rfl : n = PN (HH s) := by omega
    exact ⟨fun _ => hQ, fun z => absurd (by rw [hF.1]; exact Int32.le_refl _) z⟩
  | succ d ih =>
    intro n hn
    have nx := ih (n + 1) (by omega)
    have hv := nrv_rng s q n
    have hc : CHo s n < 2 ^ s 0 := ch_lt (s := s) n
    have hg := gv_rng (v := nrv s q) (i0 := -13) (a := -13) (b := 0) (n := n) (fun m _ => by have := nrv_rng s q m; omega) (by omega)
    have hxl : CHo s n ^^^ q < 4096 := Nat.xor_lt_two_pow (n := 12) (show CHo s n < 2 ^ 12 by omega) (show q < 2 ^ 12 by omega)
    unfold wp_X10_nearTo_L17
    have e0 : t_frontier_size ≤ iI (n : Nat) ↔ (PN (HH s) : Int) ≤ (n : Int) := by rw [hF.1, iI_le (by omega) (by omega) (by omega) (by omega)]
    rw [e0, iI_clN (by omega), hF.2.2.2.2.2.1.2.1 n (by omega) (tm_pos (by omega)), iI_xor, iI_succ]
    refine ⟨fun z => absurd z (by omega), fun _ => ⟨in_lit (by omega) (by omega), sp_bitCount hxl ?_⟩⟩
    have hb : ((pcn (CHo s n ^^^ q) 12 : Nat) : Int) = -nrv s q n := by unfold nrv; omega
    rw [hb, iI_le (by omega) (by omega) (by omega) (by omega)]
    refine ⟨fun c => ?_, fun c => ?_⟩
    · rw [gb_keep (i0 := -13) (by omega) (by omega), gv_keep (by omega) (by omega)] at nx; exact nx
    · rw [gb_take (i0 := -13) (by omega), gv_take (by omega)] at nx; exact nx
theorem sq_nearTo {s : Nat → Nat} (hW : WF s) {hand : Int32} {p1 : Int32} {t_frontierFresh : Int32} {t_now_items : Int32} {t_now_capacity : Int32} {t_now_limit : Int32} {t_now_mustSet : Int32} {t_now_neverSet : Int32} {t_choices_sets : Int32} {t_choices_limit : Int32} {t_choices_mustSet : Int32} {t_choices_neverSet : Int32} {t_choices_weight : Nat → Int32} {t_now_weight : Nat → Int32} {t_choices_gain : Nat → Int32} {t_now_gain : Nat → Int32} {t_choices_joy : Nat → Int32} {t_now_joy : Nat → Int32} {t_choices_barred : Nat → Int32} {t_now_bars : Nat → Int32} {t_choices_needed : Nat → Int32} {t_now_needs : Nat → Int32} {t_stairs_allowedCount : Int32} {t_stairs_joyAt : Nat → Int32} {t_frontier_size : Int32} {t_frontier_vertexCount : Int32} {t_frontier_allowedCount : Int32} {t_frontier_areaBelow : Int32} {t_frontier_pointAt : Nat → Int32} {t_frontier_gain : Nat → Int32} {t_frontier_joy : Nat → Int32} {t_frontier_choice : Nat → Int32} {t_frontier_times : Nat → Int32} {t_frontier_light : Nat → Int32} {t_frontier_mark : Nat → Int32} {t_frontier_vertexPoint : Nat → Int32} {Q : Int32 → Int32 → Int32 → Int32 → Int32 → Int32 → (Nat → Int32) → (Nat → Int32) → (Nat → Int32) → (Nat → Int32) → (Nat → Int32) → Int32 → (Nat → Int32) → Int32 → Int32 → Int32 → Int32 → (Nat → Int32) → (Nat → Int32) → (Nat → Int32) → (Nat → Int32) → (Nat → Int32) → (Nat → Int32) → (Nat → Int32) → (Nat → Int32) → Prop} {QX : String → Int32 → Int32 → Int32 → Int32 → Int32 → (Nat → Int32) → (Nat → Int32) → (Nat → Int32) → (Nat → Int32) → (Nat → Int32) → Int32 → (Nat → Int32) → Int32 → Int32 → Int32 → Int32 → (Nat → Int32) → (Nat → Int32) → (Nat → Int32) → (Nat → Int32) → (Nat → Int32) → (Nat → Int32) → (Nat → Int32) → (Nat → Int32) → Prop} (hS : suP s t_now_items t_now_capacity t_now_limit t_now_mustSet t_now_neverSet hand t_now_weight t_now_gain t_now_joy t_now_bars t_now_needs) (hD : dkP s t_frontierFresh t_choices_sets t_choices_limit t_choices_mustSet t_choices_neverSet t_choices_weight t_choices_gain t_choices_joy t_choices_barred t_choices_needed t_frontier_size t_frontier_vertexCount t_frontier_allowedCount t_frontier_areaBelow t_frontier_pointAt t_frontier_gain t_frontier_joy t_frontier_choice t_frontier_times t_frontier_light t_frontier_mark t_frontier_vertexPoint) (hQ : 0 ≤ p1.toInt ∧ p1.toInt < ((2 ^ s 0 : Nat) : Int) → DQ s (Q (iI (gb (nrv s p1.toInt.toNat) (PN (HH s)))))) (hX : ¬ (0 ≤ p1.toInt ∧ p1.toInt < ((2 ^ s 0 : Nat) : Int)) → DQ s (QX "java/lang/IllegalArgumentException")) : wp_X10_nearTo p1 t_frontierFresh t_now_items t_now_capacity t_now_limit t_now_mustSet t_now_neverSet t_choices_sets t_choices_limit t_choices_mustSet t_choices_neverSet t_choices_weight t_now_weight t_choices_gain t_now_gain t_choices_joy t_now_joy t_choices_barred t_now_bars t_choices_needed t_now_needs t_stairs_allowedCount t_stairs_joyAt t_frontier_size t_frontier_vertexCount t_frontier_allowedCount t_frontier_areaBelow t_frontier_pointAt t_frontier_gain t_frontier_joy t_frontier_choice t_frontier_times t_frontier_light t_frontier_mark t_frontier_vertexPoint Q QX := by
  unfold wp_X10_nearTo
  refine sp_reqSet hW hS.1 (fun h => sp_refresh hW hS hD fun sets lim must nev cw cg cj cb cn sac sja size vc ac area pa g j ch ti li mk vp hP hF => ⟨PN (HH s) + 1, ?_⟩) (fun h => hX h _ _ _ _ _ _ _ _ _ _ _ _ _ _ _ _ _ _ _ _ _ _ _ _ hD)
  have ep : p1 = iI (p1.toInt.toNat : Nat) := by rw [show ((p1.toInt.toNat : Nat) : Int) = p1.toInt by omega]; exact iI_of p1
  have := sl_nearToC hW (q := p1.toInt.toNat) (by omega) (t_now_items := t_now_items) (t_now_capacity := t_now_capacity) (t_now_limit := t_now_limit) (t_now_mustSet := t_now_mustSet) (t_now_neverSet := t_now_neverSet) (t_now_weight := t_now_weight) (t_now_gain := t_now_gain) (t_now_joy := t_now_joy) (t_now_bars := t_now_bars) (t_now_needs := t_now_needs) (QX := QX) ep hF (hQ h 1 sets lim must nev cw cg cj cb cn sac sja size vc ac area pa g j ch ti li mk vp (dkP_1 hP hF)) (PN (HH s)) 0 (Nat.zero_add _)
  rw [iI_m1, iI_lit 0, iI_lit 13]
  exact this
theorem sl_nearToR {s : Nat → Nat} (hW : WF s) {q : Nat} (hq : q < 2 ^ s 0) {t_row : Nat → Int32} {x1 : Int32} {t_thrown : Int32} {t_allowedMany : Int32} {t_pointMany : Int32} {t_joyAt : Nat → Int32} {t_pointAt : Nat → Int32} {t_pointGain : Nat → Int32} {t_pointJoy : Nat → Int32} {t_pointTimes : Nat → Int32} {t_pointSet : Nat → Int32} {t_pointLight : Nat → Int32} {Q : Int32 → Int32 → Int32 → Int32 → (Nat → Int32) → (Nat → Int32) → (Nat → Int32) → (Nat → Int32) → (Nat → Int32) → (Nat → Int32) → (Nat → Int32) → Prop} (hx : x1 = iI (q : Nat)) (hpm : t_pointMany = iI (PN (HH s) : Nat)) (hC : coP s (s 1) (HH s) (2 ^ s 0) t_pointTimes t_pointSet t_pointLight) (hQ : Q (iI (gb (nrv s q) (PN (HH s)))) t_thrown t_allowedMany t_pointMany t_joyAt t_pointAt t_pointGain t_pointJoy t_pointTimes t_pointSet t_pointLight) :
    ∀ (d n : Nat), n + d = PN (HH s) → wp_X11_nearTo_L22 t_row x1 t_thrown t_allowedMany t_pointMany t_joyAt t_pointAt t_pointGain t_pointJoy t_pointTimes t_pointSet t_pointLight Q (d + 1) (iI (gb (nrv s q) n)) (iI (n : Nat)) := by
  have hN := PN_le (HH s)
  have hp := wf_pow hW
  subst hx
  have xl : ∀ m, CHo s m ^^^ q < 4096 := fun m => by
    have hc : CHo s m < 2 ^ s 0 := ch_lt (s := s) m
    exact Nat.xor_lt_two_pow (n := 12) (show CHo s m < 2 ^ 12 by omega) (show q < 2 ^ 12 by omega)
  intro d
  induction d with
  | zero =>
    intro n hn
    unfold wp_X11_nearTo_L22
    obtain rfl : n = PN (HH s) := by omega
    exact ⟨fun _ => hQ, fun z => absurd (by rw [hpm]; exact Int32.le_refl _) z⟩
  | succ d ih =>
    intro n hn
    have nx := ih (n + 1) (by omega)
    have hv := nrv_rng s q n
    unfold wp_X11_nearTo_L22
    have e0 : t_pointMany ≤ iI (n : Nat) ↔ (PN (HH s) : Int) ≤ (n : Int) := by rw [hpm, iI_le (by omega) (by omega) (by omega) (by omega)]
    rw [e0, iI_succ]
    refine ⟨fun z => absurd z (by omega), fun _ => ?_⟩
    rcases gb_rng (v := nrv s q) (n := n) with e | ⟨m, hm, e⟩
    · rw [gb_first e] at nx
      rw [e]
      exact ⟨fun _ => nx, fun z => absurd iI_m1.symm z⟩
    · have hv2 := nrv_rng s q m
      rw [e]
      refine ⟨fun z => absurd z (by rw [iI_m1, iI_eq (by omega) (by omega) (by omega) (by omega)]; omega), fun _ => ?_⟩
      rw [iI_clN (by omega), iI_clN (by omega), hC.2.1 n (by omega) (tm_pos (by omega)), hC.2.1 m (by omega) (tm_pos (by omega)), iI_xor, iI_xor]
      refine ⟨in_lit (by omega) (by omega), sp_bits (xl n) ⟨in_lit (by omega) (by omega), sp_bits (xl m) ?_⟩⟩
      have hb : ((pcn (CHo s n ^^^ q) 12 : Nat) : Int) = -nrv s q n := by unfold nrv; omega
      have hb2 : ((pcn (CHo s m ^^^ q) 12 : Nat) : Int) = -nrv s q m := by unfold nrv; omega
      rw [hb, hb2, iI_le (by omega) (by omega) (by omega) (by omega)]
      refine ⟨fun c => ?_, fun c => ?_⟩
      · rw [gb_keep2 e (by omega)] at nx; exact nx
      · rw [gb_take2 e (by omega)] at nx; exact nx
theorem sr_nearTo {s : Nat → Nat} (hW : WF s) {p1 : Int32} {t_thrown : Int32} {t_allowedMany : Int32} {t_pointMany : Int32} {t_row : Nat → Int32} {t_joyAt : Nat → Int32} {t_pointAt : Nat → Int32} {t_pointGain : Nat → Int32} {t_pointJoy : Nat → Int32} {t_pointTimes : Nat → Int32} {t_pointSet : Nat → Int32} {t_pointLight : Nat → Int32} {Q : Int32 → Int32 → Int32 → Int32 → (Nat → Int32) → (Nat → Int32) → (Nat → Int32) → (Nat → Int32) → (Nat → Int32) → (Nat → Int32) → (Nat → Int32) → Prop} (hN : neP s t_row) (hQ : ∀ am pm ja pa g j ti ch li, Q (if 0 ≤ p1.toInt ∧ p1.toInt < ((2 ^ s 0 : Nat) : Int) then iI (gb (nrv s p1.toInt.toNat) (PN (HH s))) else 0) (if 0 ≤ p1.toInt ∧ p1.toInt < ((2 ^ s 0 : Nat) : Int) then 0 else 1) am pm ja pa g j ti ch li) : wp_X11_nearTo p1 t_thrown t_allowedMany t_pointMany t_row t_joyAt t_pointAt t_pointGain t_pointJoy t_pointTimes t_pointSet t_pointLight Q := by
  unfold wp_X11_nearTo
  refine sp_isSet hW hN (sp_passes ?_)
  by_cases h : 0 ≤ p1.toInt ∧ p1.toInt < ((2 ^ s 0 : Nat) : Int)
  · rw [if_pos h]
    simp only [if_pos h] at hQ
    have ep : p1 = iI (p1.toInt.toNat : Nat) := by rw [show ((p1.toInt.toNat : Nat) : Int) = p1.toInt by omega]; exact iI_of p1
    refine ⟨fun _ => sp_layA hW hN fun am pm ja pa g j ti ch li hM hC => ⟨PN (HH s) + 1, ?_⟩, fun z => absurd z (by decide)⟩
    have := sl_nearToR hW (q := p1.toInt.toNat) (by omega) (t_row := t_row) (t_thrown := 0) (t_allowedMany := am) (t_joyAt := ja) (t_pointAt := pa) (t_pointGain := g) (t_pointJoy := j) ep hM.2.1 hC (hQ _ _ _ _ _ _ _ _ _) (PN (HH s)) 0 (Nat.zero_add _)
    rw [iI_m1, iI_lit 0]
    exact this
  · rw [if_neg h]
    simp only [if_neg h] at hQ
    exact ⟨fun z => absurd rfl z, fun _ => hQ _ _ _ _ _ _ _ _ _⟩
/-- how far two points' choices are from each other -/
def apr (s : Nat → Nat) (a b : Nat) : Nat := pcn (CHo s a ^^^ CHo s b) 12
theorem sq_apart {s : Nat → Nat} (hW : WF s) {hand : Int32} {p1 : Int32} {p2 : Int32} {t_frontierFresh : Int32} {t_now_items : Int32} {t_now_capacity : Int32} {t_now_limit : Int32} {t_now_mustSet : Int32} {t_now_neverSet : Int32} {t_choices_sets : Int32} {t_choices_limit : Int32} {t_choices_mustSet : Int32} {t_choices_neverSet : Int32} {t_choices_weight : Nat → Int32} {t_now_weight : Nat → Int32} {t_choices_gain : Nat → Int32} {t_now_gain : Nat → Int32} {t_choices_joy : Nat → Int32} {t_now_joy : Nat → Int32} {t_choices_barred : Nat → Int32} {t_now_bars : Nat → Int32} {t_choices_needed : Nat → Int32} {t_now_needs : Nat → Int32} {t_stairs_allowedCount : Int32} {t_stairs_joyAt : Nat → Int32} {t_frontier_size : Int32} {t_frontier_vertexCount : Int32} {t_frontier_allowedCount : Int32} {t_frontier_areaBelow : Int32} {t_frontier_pointAt : Nat → Int32} {t_frontier_gain : Nat → Int32} {t_frontier_joy : Nat → Int32} {t_frontier_choice : Nat → Int32} {t_frontier_times : Nat → Int32} {t_frontier_light : Nat → Int32} {t_frontier_mark : Nat → Int32} {t_frontier_vertexPoint : Nat → Int32} {Q : Int32 → Int32 → Int32 → Int32 → Int32 → Int32 → (Nat → Int32) → (Nat → Int32) → (Nat → Int32) → (Nat → Int32) → (Nat → Int32) → Int32 → (Nat → Int32) → Int32 → Int32 → Int32 → Int32 → (Nat → Int32) → (Nat → Int32) → (Nat → Int32) → (Nat → Int32) → (Nat → Int32) → (Nat → Int32) → (Nat → Int32) → (Nat → Int32) → Prop} {QX : String → Int32 → Int32 → Int32 → Int32 → Int32 → (Nat → Int32) → (Nat → Int32) → (Nat → Int32) → (Nat → Int32) → (Nat → Int32) → Int32 → (Nat → Int32) → Int32 → Int32 → Int32 → Int32 → (Nat → Int32) → (Nat → Int32) → (Nat → Int32) → (Nat → Int32) → (Nat → Int32) → (Nat → Int32) → (Nat → Int32) → (Nat → Int32) → Prop} (hS : suP s t_now_items t_now_capacity t_now_limit t_now_mustSet t_now_neverSet hand t_now_weight t_now_gain t_now_joy t_now_bars t_now_needs) (hD : dkP s t_frontierFresh t_choices_sets t_choices_limit t_choices_mustSet t_choices_neverSet t_choices_weight t_choices_gain t_choices_joy t_choices_barred t_choices_needed t_frontier_size t_frontier_vertexCount t_frontier_allowedCount t_frontier_areaBelow t_frontier_pointAt t_frontier_gain t_frontier_joy t_frontier_choice t_frontier_times t_frontier_light t_frontier_mark t_frontier_vertexPoint) (hQ : 0 ≤ p1.toInt ∧ p1.toInt < (PN (HH s) : Int) → 0 ≤ p2.toInt ∧ p2.toInt < (PN (HH s) : Int) → DQ s (Q (iI (apr s p1.toInt.toNat p2.toInt.toNat : Nat)))) (hX : ¬ ((0 ≤ p1.toInt ∧ p1.toInt < (PN (HH s) : Int)) ∧ (0 ≤ p2.toInt ∧ p2.toInt < (PN (HH s) : Int))) → DQ s (QX "java/lang/IndexOutOfBoundsException")) : wp_X10_apart p1 p2 t_frontierFresh t_now_items t_now_capacity t_now_limit t_now_mustSet t_now_neverSet t_choices_sets t_choices_limit t_choices_mustSet t_choices_neverSet t_choices_weight t_now_weight t_choices_gain t_now_gain t_choices_joy t_now_joy t_choices_barred t_now_bars t_choices_needed t_now_needs t_stairs_allowedCount t_stairs_joyAt t_frontier_size t_frontier_vertexCount t_frontier_allowedCount t_frontier_areaBelow t_frontier_pointAt t_frontier_gain t_frontier_joy t_frontier_choice t_frontier_times t_frontier_light t_frontier_mark t_frontier_vertexPoint Q QX := by
  have hN := PN_le (HH s)
  have hp := wf_pow hW
  unfold wp_X10_apart
  refine sq_requirePoint hW hS hD (fun h sets lim must nev cw cg cj cb cn sac sja size vc ac area pa g j ch ti li mk vp hP hF => ?_) (fun h ff sets lim must nev cw cg cj cb cn sac sja size vc ac area pa g j ch ti li mk vp hd => hX (fun z => h z.1) _ _ _ _ _ _ _ _ _ _ _ _ _ _ _ _ _ _ _ _ _ _ _ _ hd)
  refine sq_requirePoint hW hS (dkP_1 hP hF) (fun h2 sets lim must nev cw cg cj cb cn sac sja size vc ac area pa g j ch ti li mk vp hP hF => ?_) (fun h2 ff sets lim must nev cw cg cj cb cn sac sja size vc ac area pa g j ch ti li mk vp hd => hX (fun z => h2 z.2) _ _ _ _ _ _ _ _ _ _ _ _ _ _ _ _ _ _ _ _ _ _ _ _ hd)
  have c1 : CHo s p1.toInt.toNat < 2 ^ s 0 := ch_lt (s := s) _
  have c2 : CHo s p2.toInt.toNat < 2 ^ s 0 := ch_lt (s := s) _
  have xl : CHo s p1.toInt.toNat ^^^ CHo s p2.toInt.toNat < 4096 := Nat.xor_lt_two_pow (n := 12) (show CHo s p1.toInt.toNat < 2 ^ 12 by omega) (show CHo s p2.toInt.toNat < 2 ^ 12 by omega)
  refine ⟨by rw [vp_in_iff]; omega, by rw [vp_in_iff]; omega, ?_⟩
  rw [show p1.toNatClampNeg = p1.toInt.toNat from rfl, show p2.toNatClampNeg = p2.toInt.toNat from rfl, hF.2.2.2.2.2.1.2.1 _ (by omega) (tm_pos (by omega)), hF.2.2.2.2.2.1.2.1 _ (by omega) (tm_pos (by omega)), iI_xor]
  exact sp_bitCount xl (hQ h h2 1 sets lim must nev cw cg cj cb cn sac sja size vc ac area pa g j ch ti li mk vp (dkP_1 hP hF))
theorem sr_apart {s : Nat → Nat} (hW : WF s) {p1 : Int32} {p2 : Int32} {t_thrown : Int32} {t_allowedMany : Int32} {t_pointMany : Int32} {t_joyAt : Nat → Int32} {t_row : Nat → Int32} {t_pointAt : Nat → Int32} {t_pointGain : Nat → Int32} {t_pointJoy : Nat → Int32} {t_pointTimes : Nat → Int32} {t_pointSet : Nat → Int32} {t_pointLight : Nat → Int32} {Q : Int32 → Int32 → Int32 → Int32 → (Nat → Int32) → (Nat → Int32) → (Nat → Int32) → (Nat → Int32) → (Nat → Int32) → (Nat → Int32) → (Nat → Int32) → Prop} (hN : neP s t_row) (hQ : ∀ am pm ja pa g j ti ch li, Q (if (0 ≤ p1.toInt ∧ p1.toInt < (PN (HH s) : Int)) ∧ (0 ≤ p2.toInt ∧ p2.toInt < (PN (HH s) : Int)) then iI (apr s p1.toInt.toNat p2.toInt.toNat : Nat) else 0) (if (0 ≤ p1.toInt ∧ p1.toInt < (PN (HH s) : Int)) ∧ (0 ≤ p2.toInt ∧ p2.toInt < (PN (HH s) : Int)) then 0 else 1) am pm ja pa g j ti ch li) : wp_X11_apart p1 p2 t_thrown t_allowedMany t_pointMany t_joyAt t_row t_pointAt t_pointGain t_pointJoy t_pointTimes t_pointSet t_pointLight Q := by
  have hN2 := PN_le (HH s)
  have hp := wf_pow hW
  unfold wp_X11_apart
  refine sp_layA hW hN fun am pm ja pa g j ti ch li hM hC => sp_isPoint (by omega) hM.2.1 ?_
  have ans := hQ am pm ja pa g j ti ch li
  have no : ∀ {K : Int32 → Int32 → Prop}, K 0 1 → wp_X11_passes 0 t_thrown K := fun {K} hk => by
    have := sp_passes (a := False) (th := t_thrown) (Q := K) (by rw [if_neg id]; exact hk)
    rw [if_neg id] at this
    exact this
  by_cases h : 0 ≤ p1.toInt ∧ p1.toInt < (PN (HH s) : Int)
  · rw [if_pos h]
    refine ⟨fun z => absurd z (by decide), fun _ => sp_isPoint (by omega) hM.2.1 ?_⟩
    by_cases h2 : 0 ≤ p2.toInt ∧ p2.toInt < (PN (HH s) : Int)
    · rw [if_pos h2]
      rw [if_pos ⟨h, h2⟩, if_pos ⟨h, h2⟩] at ans
      refine ⟨fun z => absurd z (by decide), fun _ => ?_⟩
      have c1 : CHo s p1.toInt.toNat < 2 ^ s 0 := ch_lt (s := s) _
      have c2 : CHo s p2.toInt.toNat < 2 ^ s 0 := ch_lt (s := s) _
      have xl : CHo s p1.toInt.toNat ^^^ CHo s p2.toInt.toNat < 4096 := Nat.xor_lt_two_pow (n := 12) (show CHo s p1.toInt.toNat < 2 ^ 12 by omega) (show CHo s p2.toInt.toNat < 2 ^ 12 by omega)
      have ye : ∀ {K : Int32 → Int32 → Prop}, K 1 0 → wp_X11_passes 1 t_thrown K := fun {K} hk => by
        have := sp_passes (a := True) (th := t_thrown) (Q := K) (by rw [if_pos trivial]; exact hk)
        rw [if_pos trivial] at this
        exact this
      refine ye ⟨fun z => absurd z (by decide), fun _ => ⟨by rw [vp_in_iff]; omega, by rw [vp_in_iff]; omega, ?_⟩⟩
      rw [show p1.toNatClampNeg = p1.toInt.toNat from rfl, show p2.toNatClampNeg = p2.toInt.toNat from rfl, hC.2.1 _ (by omega) (tm_pos (by omega)), hC.2.1 _ (by omega) (tm_pos (by omega)), iI_xor]
      exact sp_bits xl ans
    · rw [if_neg h2]
      rw [if_neg (fun z => h2 z.2), if_neg (fun z => h2 z.2)] at ans
      exact ⟨fun _ => no ⟨fun _ => ans, fun z => absurd rfl z⟩, fun z => absurd rfl z⟩
  · rw [if_neg h]
    rw [if_neg (fun z => h z.1), if_neg (fun z => h z.1)] at ans
    exact ⟨fun _ => no ⟨fun _ => ans, fun z => absurd rfl z⟩, fun z => absurd rfl z⟩
