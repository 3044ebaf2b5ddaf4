/-! WALKS OVER CHOICES: core, unused, nearTo, capacityFor -/
def anf (c : Nat → Nat) (a : Nat) : Nat → Nat
  | 0 => a
  | n + 1 => anf c a n &&& c n
theorem anf_lt {c : Nat → Nat} {a M : Nat} (h : a < M) : ∀ n, anf c a n < M
  | 0 => h
  | n + 1 => Nat.lt_of_le_of_lt Nat.and_le_left (anf_lt h n)
/-- the items of every choice -/
def core (s : Nat → Nat) : Nat := anf (CHo s) (if PN (HH s) = 0 then 0 else 2 ^ s 0 - 1) (PN (HH s))
/-- the items of no choice -/
def unus (s : Nat → Nat) : Nat := anf (fun n => 4095 ^^^ CHo s n) (2 ^ s 0 - 1) (PN (HH s))
theorem sl_coreC {s : Nat → Nat} (hW : WF s) {t_now_items : Int32} {t_now_capacity : Int32} {t_now_limit : Int32} {t_now_mustSet : Int32} {t_now_neverSet : Int32} {t_now_weight : Nat → Int32} {t_now_gain : Nat → Int32} {t_now_joy : Nat → Int32} {t_now_bars : Nat → Int32} {t_now_needs : Nat → Int32} {t_frontierFresh : Int32} {t_choices_sets : Int32} {t_choices_limit : Int32} {t_choices_mustSet : Int32} {t_choices_neverSet : Int32} {t_choices_weight : Nat → Int32} {t_choices_gain : Nat → Int32} {t_choices_joy : Nat → Int32} {t_choices_barred : Nat → Int32} {t_choices_needed : Nat → Int32} {t_stairs_allowedCount : Int32} {t_stairs_joyAt : Nat → Int32} {t_frontier_size : Int32} {t_frontier_vertexCount : Int32} {t_frontier_allowedCount : Int32} {t_frontier_areaBelow : Int32} {t_frontier_pointAt : Nat → Int32} {t_frontier_gain : Nat → Int32} {t_frontier_joy : Nat → Int32} {t_frontier_choice : Nat → Int32} {t_frontier_times : Nat → Int32} {t_frontier_light : Nat → Int32} {t_frontier_mark : Nat → Int32} {t_frontier_vertexPoint : Nat → Int32} {Q : Int32 → Int32 → Int32 → Int32 → Int32 → Int32 → (Nat → Int32) → (Nat → Int32) → (Nat → Int32) → (Nat → Int32) → (Nat → Int32) → Int32 → (Nat → Int32) → Int32 → Int32 → Int32 → Int32 → (Nat → Int32) → (Nat → Int32) → (Nat → Int32) → (Nat → Int32) → (Nat → Int32) → (Nat → Int32) → (Nat → Int32) → (Nat → Int32) → Prop} (hF : frP s t_frontier_size t_frontier_vertexCount t_frontier_allowedCount t_frontier_areaBelow t_frontier_pointAt t_frontier_gain t_frontier_joy t_frontier_choice t_frontier_times t_frontier_light t_frontier_mark t_frontier_vertexPoint) {a : Nat} (hQ : Q (iI (anf (CHo s) a (PN (HH s)) : Nat)) t_frontierFresh t_choices_sets t_choices_limit t_choices_mustSet t_choices_neverSet t_choices_weight t_choices_gain t_choices_joy t_choices_barred t_choices_needed t_stairs_allowedCount t_stairs_joyAt t_frontier_size t_frontier_vertexCount t_frontier_allowedCount t_frontier_areaBelow t_frontier_pointAt t_frontier_gain t_frontier_joy t_frontier_choice t_frontier_times t_frontier_light t_frontier_mark t_frontier_vertexPoint) :
    ∀ (d n : Nat), n + d = PN (HH s) → wp_X10_core_L28 t_now_items t_now_capacity t_now_limit t_now_mustSet t_now_neverSet t_now_weight t_now_gain t_now_joy t_now_bars t_now_needs t_frontierFresh t_choices_sets t_choices_limit t_choices_mustSet t_choices_neverSet t_choices_weight t_choices_gain t_choices_joy t_choices_barred t_choices_needed t_stairs_allowedCount t_stairs_joyAt t_frontier_size t_frontier_vertexCount t_frontier_allowedCount t_frontier_areaBelow t_frontier_pointAt t_frontier_gain t_frontier_joy t_frontier_choice t_frontier_times t_frontier_light t_frontier_mark t_frontier_vertexPoint Q (d + 1) (iI (anf (CHo s) a n : Nat)) (iI (n : Nat)) := by
  have hN := PN_le (HH s)
  intro d
  induction d with
  | zero =>
    intro n hn
    unfold wp_X10_core_L28
    obtain rfl : n = PN (HH s) := by omega
    exact ⟨fun _ => hQ, fun z => absurd (by rw [hF.1]; exact Int32.le_refl _) z⟩
  | succ d ih =>
    intro n hn
    have nx := ih (n + 1) (by omega)
    unfold wp_X10_core_L28
    have e0 : t_frontier_size ≤ iI (n : Nat) ↔ (PN (HH s) : Int) ≤ (n : Int) := by rw [hF.1, iI_le (by omega) (by omega) (by omega) (by omega)]
    rw [e0, iI_clN (by omega), hF.2.2.2.2.2.1.2.1 n (by omega) (tm_pos (by omega)), iI_and, iI_succ]
    refine ⟨fun z => absurd z (by omega), fun _ => ⟨in_lit (by omega) (by omega), fun v hv => ?_⟩⟩
    subst hv
    exact nx
theorem sq_core {s : Nat → Nat} (hW : WF s) {hand : Int32} {t_frontierFresh : Int32} {t_now_items : Int32} {t_now_capacity : Int32} {t_now_limit : Int32} {t_now_mustSet : Int32} {t_now_neverSet : Int32} {t_choices_sets : Int32} {t_choices_limit : Int32} {t_choices_mustSet : Int32} {t_choices_neverSet : Int32} {t_choices_weight : Nat → Int32} {t_now_weight : Nat → Int32} {t_choices_gain : Nat → Int32} {t_now_gain : Nat → Int32} {t_choices_joy : Nat → Int32} {t_now_joy : Nat → Int32} {t_choices_barred : Nat → Int32} {t_now_bars : Nat → Int32} {t_choices_needed : Nat → Int32} {t_now_needs : Nat → Int32} {t_stairs_allowedCount : Int32} {t_stairs_joyAt : Nat → Int32} {t_frontier_size : Int32} {t_frontier_vertexCount : Int32} {t_frontier_allowedCount : Int32} {t_frontier_areaBelow : Int32} {t_frontier_pointAt : Nat → Int32} {t_frontier_gain : Nat → Int32} {t_frontier_joy : Nat → Int32} {t_frontier_choice : Nat → Int32} {t_frontier_times : Nat → Int32} {t_frontier_light : Nat → Int32} {t_frontier_mark : Nat → Int32} {t_frontier_vertexPoint : Nat → Int32} {Q : Int32 → Int32 → Int32 → Int32 → Int32 → Int32 → (Nat → Int32) → (Nat → Int32) → (Nat → Int32) → (Nat → Int32) → (Nat → Int32) → Int32 → (Nat → Int32) → Int32 → Int32 → Int32 → Int32 → (Nat → Int32) → (Nat → Int32) → (Nat → Int32) → (Nat → Int32) → (Nat → Int32) → (Nat → Int32) → (Nat → Int32) → (Nat → Int32) → Prop} (hS : suP s t_now_items t_now_capacity t_now_limit t_now_mustSet t_now_neverSet hand t_now_weight t_now_gain t_now_joy t_now_bars t_now_needs) (hD : dkP s t_frontierFresh t_choices_sets t_choices_limit t_choices_mustSet t_choices_neverSet t_choices_weight t_choices_gain t_choices_joy t_choices_barred t_choices_needed t_frontier_size t_frontier_vertexCount t_frontier_allowedCount t_frontier_areaBelow t_frontier_pointAt t_frontier_gain t_frontier_joy t_frontier_choice t_frontier_times t_frontier_light t_frontier_mark t_frontier_vertexPoint) (hQ : DQ s (Q (iI (core s : Nat)))) : wp_X10_core t_frontierFresh t_now_items t_now_capacity t_now_limit t_now_mustSet t_now_neverSet t_choices_sets t_choices_limit t_choices_mustSet t_choices_neverSet t_choices_weight t_now_weight t_choices_gain t_now_gain t_choices_joy t_now_joy t_choices_barred t_now_bars t_choices_needed t_now_needs t_stairs_allowedCount t_stairs_joyAt t_frontier_size t_frontier_vertexCount t_frontier_allowedCount t_frontier_areaBelow t_frontier_pointAt t_frontier_gain t_frontier_joy t_frontier_choice t_frontier_times t_frontier_light t_frontier_mark t_frontier_vertexPoint Q := by
  have hp := wf_pow hW
  have hp0 := Nat.two_pow_pos (s 0)
  have hN := PN_le (HH s)
  unfold wp_X10_core
  refine sp_refresh hW hS hD fun sets lim must nev cw cg cj cb cn sac sja size vc ac area pa g j ch ti li mk vp hP hF => ?_
  have ans := hQ 1 sets lim must nev cw cg cj cb cn sac sja size vc ac area pa g j ch ti li mk vp (dkP_1 hP hF)
  have z : size ≤ 0 ↔ PN (HH s) = 0 := by rw [hF.1, iI_lit 0, iI_le (by omega) (by omega) (by omega) (by omega)]; omega
  unfold core at ans
  rw [z]
  refine ⟨fun c => ⟨PN (HH s) + 1, ?_⟩, fun c => ?_⟩
  · rw [if_pos c] at ans
    rw [show (0 : Int32) = iI ((0 : Nat) : Int) from iI_lit 0]
    exact sl_coreC hW hF ans _ 0 (Nat.zero_add _)
  · rw [if_neg c] at ans
    unfold wp_X8_everyItem
    rw [hS.1, iI_shl1 _ (by have := hW.1; omega)]
    refine ⟨PN (HH s) + 1, ?_⟩
    have e : iI ((2 ^ s 0 : Nat) : Int) - 1 = iI ((2 ^ s 0 - 1 : Nat) : Int) := by
      rw [iI_lit 1, iI_sub]
      exact congrArg iI (by omega)
    rw [e, show (0 : Int32) = iI ((0 : Nat) : Int) from iI_lit 0]
    exact sl_coreC hW hF ans _ 0 (Nat.zero_add _)
theorem sl_coreR {s : Nat → Nat} (hW : WF s) {t_row : Nat → Int32} {t_thrown : Int32} {t_allowedMany : Int32} {t_pointMany : Int32} {t_joyAt : Nat → Int32} {t_pointAt : Nat → Int32} {t_pointGain : Nat → Int32} {t_pointJoy : Nat → Int32} {t_pointTimes : Nat → Int32} {t_pointSet : Nat → Int32} {t_pointLight : Nat → Int32} {Q : Int32 → Int32 → Int32 → Int32 → (Nat → Int32) → (Nat → Int32) → (Nat → Int32) → (Nat → Int32) → (Nat → Int32) → (Nat → Int32) → (Nat → Int32) → Prop} (hpm : t_pointMany = iI (PN (HH s) : Nat)) (hC : coP s (s 1) (HH s) (2 ^ s 0) t_pointTimes t_pointSet t_pointLight) {a : Nat} (hQ : Q (iI (anf (CHo s) a (PN (HH s)) : Nat)) t_thrown t_allowedMany t_pointMany t_joyAt t_pointAt t_pointGain t_pointJoy t_pointTimes t_pointSet t_pointLight) :
    ∀ (d n : Nat), n + d = PN (HH s) → wp_X11_core_L29 t_row t_thrown t_allowedMany t_pointMany t_joyAt t_pointAt t_pointGain t_pointJoy t_pointTimes t_pointSet t_pointLight Q (d + 1) (iI (anf (CHo s) a n : Nat)) (iI (n : Nat)) := by
  have hN := PN_le (HH s)
  intro d
  induction d with
  | zero =>
    intro n hn
    unfold wp_X11_core_L29
    obtain rfl : n = PN (HH s) := by omega
    exact ⟨fun _ => hQ, fun z => absurd (by rw [hpm]; exact Int32.le_refl _) z⟩
  | succ d ih =>
    intro n hn
    have nx := ih (n + 1) (by omega)
    unfold wp_X11_core_L29
    have e0 : t_pointMany ≤ iI (n : Nat) ↔ (PN (HH s) : Int) ≤ (n : Int) := by rw [hpm, iI_le (by omega) (by omega) (by omega) (by omega)]
    rw [e0, iI_clN (by omega), hC.2.1 n (by omega) (tm_pos (by omega)), iI_and, iI_succ]
    refine ⟨fun z => absurd z (by omega), fun _ => ⟨in_lit (by omega) (by omega), fun v hv => ?_⟩⟩
    subst hv
    exact nx
theorem sr_core {s : Nat → Nat} (hW : WF s) {t_thrown : Int32} {t_allowedMany : Int32} {t_pointMany : Int32} {t_joyAt : Nat → Int32} {t_row : Nat → Int32} {t_pointAt : Nat → Int32} {t_pointGain : Nat → Int32} {t_pointJoy : Nat → Int32} {t_pointTimes : Nat → Int32} {t_pointSet : Nat → Int32} {t_pointLight : Nat → Int32} {Q : Int32 → Int32 → Int32 → Int32 → (Nat → Int32) → (Nat → Int32) → (Nat → Int32) → (Nat → Int32) → (Nat → Int32) → (Nat → Int32) → (Nat → Int32) → Prop} (hN : neP s t_row) (hQ : ∀ am pm ja pa g j ti ch li, Q (iI (core s : Nat)) 0 am pm ja pa g j ti ch li) : wp_X11_core t_thrown t_allowedMany t_pointMany t_joyAt t_row t_pointAt t_pointGain t_pointJoy t_pointTimes t_pointSet t_pointLight Q := by
  have hp := wf_pow hW
  have hp0 := Nat.two_pow_pos (s 0)
  have hN2 := PN_le (HH s)
  unfold wp_X11_core
  refine sp_layA hW hN fun am pm ja pa g j ti ch li hM hC => ?_
  have ans := hQ am pm ja pa g j ti ch li
  have z : pm = 0 ↔ PN (HH s) = 0 := by rw [hM.2.1, iI_lit 0, iI_eq (by omega) (by omega) (by omega) (by omega)]; omega
  unfold core at ans
  rw [z]
  refine ⟨fun c => sp_allSets hW hN fun v hv => ⟨PN (HH s) + 1, ?_⟩, fun c => ⟨PN (HH s) + 1, ?_⟩⟩
  · rw [if_neg c] at ans
    have e : iI ((2 ^ s 0 : Nat) : Int) - 1 = iI ((2 ^ s 0 - 1 : Nat) : Int) := by
      rw [iI_lit 1, iI_sub]
      exact congrArg iI (by omega)
    rw [e] at hv
    subst hv
    have := sl_coreR hW (t_row := t_row) (t_thrown := 0) (t_allowedMany := am) (t_joyAt := ja) (t_pointAt := pa) (t_pointGain := g) (t_pointJoy := j) hM.2.1 hC ans (PN (HH s)) 0 (Nat.zero_add _)
    rw [iI_lit 0]
    exact this
  · rw [if_pos c] at ans
    have := sl_coreR hW (t_row := t_row) (t_thrown := 0) (t_allowedMany := am) (t_joyAt := ja) (t_pointAt := pa) (t_pointGain := g) (t_pointJoy := j) hM.2.1 hC ans (PN (HH s)) 0 (Nat.zero_add _)
    rw [iI_lit 0]
    exact this
theorem sl_unusedC {s : Nat → Nat} (hW : WF s) {t_now_items : Int32} {t_now_capacity : Int32} {t_now_limit : Int32} {t_now_mustSet : Int32} {t_now_neverSet : Int32} {t_now_weight : Nat → Int32} {t_now_gain : Nat → Int32} {t_now_joy : Nat → Int32} {t_now_bars : Nat → Int32} {t_now_needs : Nat → Int32} {t_frontierFresh : Int32} {t_choices_sets : Int32} {t_choices_limit : Int32} {t_choices_mustSet : Int32} {t_choices_neverSet : Int32} {t_choices_weight : Nat → Int32} {t_choices_gain : Nat → Int32} {t_choices_joy : Nat → Int32} {t_choices_barred : Nat → Int32} {t_choices_needed : Nat → Int32} {t_stairs_allowedCount : Int32} {t_stairs_joyAt : Nat → Int32} {t_frontier_size : Int32} {t_frontier_vertexCount : Int32} {t_frontier_allowedCount : Int32} {t_frontier_areaBelow : Int32} {t_frontier_pointAt : Nat → Int32} {t_frontier_gain : Nat → Int32} {t_frontier_joy : Nat → Int32} {t_frontier_choice : Nat → Int32} {t_frontier_times : Nat → Int32} {t_frontier_light : Nat → Int32} {t_frontier_mark : Nat → Int32} {t_frontier_vertexPoint : Nat → Int32} {Q : Int32 → Int32 → Int32 → Int32 → Int32 → Int32 → (Nat → Int32) → (Nat → Int32) → (Nat → Int32) → (Nat → Int32) → (Nat → Int32) → Int32 → (Nat → Int32) → Int32 → Int32 → Int32 → Int32 → (Nat → Int32) → (Nat → Int32) → (Nat → Int32) → (Nat → Int32) → (Nat → Int32) → (Nat → Int32) → (Nat → Int32) → (Nat → Int32) → Prop} (hF : frP s t_frontier_size t_frontier_vertexCount t_frontier_allowedCount t_frontier_areaBelow t_frontier_pointAt t_frontier_gain t_frontier_joy t_frontier_choice t_frontier_times t_frontier_light t_frontier_mark t_frontier_vertexPoint) (hQ : Q (iI (unus s : Nat)) t_frontierFresh t_choices_sets t_choices_limit t_choices_mustSet t_choices_neverSet t_choices_weight t_choices_gain t_choices_joy t_choices_barred t_choices_needed t_stairs_allowedCount t_stairs_joyAt t_frontier_size t_frontier_vertexCount t_frontier_allowedCount t_frontier_areaBelow t_frontier_pointAt t_frontier_gain t_frontier_joy t_frontier_choice t_frontier_times t_frontier_light t_frontier_mark t_frontier_vertexPoint) :
    ∀ (d n : Nat), n + d = PN (HH s) → wp_X10_unused_L14 t_now_items t_now_capacity t_now_limit t_now_mustSet t_now_neverSet t_now_weight t_now_gain t_now_joy t_now_bars t_now_needs t_frontierFresh t_choices_sets t_choices_limit t_choices_mustSet t_choices_neverSet t_choices_weight t_choices_gain t_choices_joy t_choices_barred t_choices_needed t_stairs_allowedCount t_stairs_joyAt t_frontier_size t_frontier_vertexCount t_frontier_allowedCount t_frontier_areaBelow t_frontier_pointAt t_frontier_gain t_frontier_joy t_frontier_choice t_frontier_times t_frontier_light t_frontier_mark t_frontier_vertexPoint Q (d + 1) (iI (anf (fun n => 4095 ^^^ CHo s n) (2 ^ s 0 - 1) n : Nat)) (iI (n : Nat)) := by
  have hN := PN_le (HH s)
  have hp := wf_pow hW
  have hp0 := Nat.two_pow_pos (s 0)
  intro d
  induction d with
  | zero =>
    intro n hn
    unfold wp_X10_unused_L14
    obtain rfl : n = PN (HH s) := by omega
    exact ⟨fun _ => hQ, fun z => absurd (by rw [hF.1]; exact Int32.le_refl _) z⟩
  | succ d ih =>
    intro n hn
    have nx := ih (n + 1) (by omega)
    have hl := anf_lt (c := fun n => 4095 ^^^ CHo s n) (a := 2 ^ s 0 - 1) (M := 4096) (by omega) n
    unfold wp_X10_unused_L14
    have e0 : t_frontier_size ≤ iI (n : Nat) ↔ (PN (HH s) : Int) ≤ (n : Int) := by rw [hF.1, iI_le (by omega) (by omega) (by omega) (by omega)]
    rw [e0, iI_clN (by omega), hF.2.2.2.2.2.1.2.1 n (by omega) (tm_pos (by omega)), iI_andn hl, iI_succ]
    refine ⟨fun z => absurd z (by omega), fun _ => ⟨in_lit (by omega) (by omega), fun v hv => ?_⟩⟩
    subst hv
    exact nx
theorem sq_unused {s : Nat → Nat} (hW : WF s) {hand : Int32} {t_frontierFresh : Int32} {t_now_items : Int32} {t_now_capacity : Int32} {t_now_limit : Int32} {t_now_mustSet : Int32} {t_now_neverSet : Int32} {t_choices_sets : Int32} {t_choices_limit : Int32} {t_choices_mustSet : Int32} {t_choices_neverSet : Int32} {t_choices_weight : Nat → Int32} {t_now_weight : Nat → Int32} {t_choices_gain : Nat → Int32} {t_now_gain : Nat → Int32} {t_choices_joy : Nat → Int32} {t_now_joy : Nat → Int32} {t_choices_barred : Nat → Int32} {t_now_bars : Nat → Int32} {t_choices_needed : Nat → Int32} {t_now_needs : Nat → Int32} {t_stairs_allowedCount : Int32} {t_stairs_joyAt : Nat → Int32} {t_frontier_size : Int32} {t_frontier_vertexCount : Int32} {t_frontier_allowedCount : Int32} {t_frontier_areaBelow : Int32} {t_frontier_pointAt : Nat → Int32} {t_frontier_gain : Nat → Int32} {t_frontier_joy : Nat → Int32} {t_frontier_choice : Nat → Int32} {t_frontier_times : Nat → Int32} {t_frontier_light : Nat → Int32} {t_frontier_mark : Nat → Int32} {t_frontier_vertexPoint : Nat → Int32} {Q : Int32 → Int32 → Int32 → Int32 → Int32 → Int32 → (Nat → Int32) → (Nat → Int32) → (Nat → Int32) → (Nat → Int32) → (Nat → Int32) → Int32 → (Nat → Int32) → Int32 → Int32 → Int32 → Int32 → (Nat → Int32) → (Nat → Int32) → (Nat → Int32) → (Nat → Int32) → (Nat → Int32) → (Nat → Int32) → (Nat → Int32) → (Nat → Int32) → Prop} (hS : suP s t_now_items t_now_capacity t_now_limit t_now_mustSet t_now_neverSet hand t_now_weight t_now_gain t_now_joy t_now_bars t_now_needs) (hD : dkP s t_frontierFresh t_choices_sets t_choices_limit t_choices_mustSet t_choices_neverSet t_choices_weight t_choices_gain t_choices_joy t_choices_barred t_choices_needed t_frontier_size t_frontier_vertexCount t_frontier_allowedCount t_frontier_areaBelow t_frontier_pointAt t_frontier_gain t_frontier_joy t_frontier_choice t_frontier_times t_frontier_light t_frontier_mark t_frontier_vertexPoint) (hQ : DQ s (Q (iI (unus s : Nat)))) : wp_X10_unused t_frontierFresh t_now_items t_now_capacity t_now_limit t_now_mustSet t_now_neverSet t_choices_sets t_choices_limit t_choices_mustSet t_choices_neverSet t_choices_weight t_now_weight t_choices_gain t_now_gain t_choices_joy t_now_joy t_choices_barred t_now_bars t_choices_needed t_now_needs t_stairs_allowedCount t_stairs_joyAt t_frontier_size t_frontier_vertexCount t_frontier_allowedCount t_frontier_areaBelow t_frontier_pointAt t_frontier_gain t_frontier_joy t_frontier_choice t_frontier_times t_frontier_light t_frontier_mark t_frontier_vertexPoint Q := by
  have hp := wf_pow hW
  have hp0 := Nat.two_pow_pos (s 0)
  unfold wp_X10_unused
  refine sp_refresh hW hS hD fun sets lim must nev cw cg cj cb cn sac sja size vc ac area pa g j ch ti li mk vp hP hF => ?_
  have ans := hQ 1 sets lim must nev cw cg cj cb cn sac sja size vc ac area pa g j ch ti li mk vp (dkP_1 hP hF)
  unfold wp_X8_everyItem
  rw [hS.1, iI_shl1 _ (by have := hW.1; omega)]
  refine ⟨PN (HH s) + 1, ?_⟩
  have e : iI ((2 ^ s 0 : Nat) : Int) - 1 = iI ((2 ^ s 0 - 1 : Nat) : Int) := by
    rw [iI_lit 1, iI_sub]
    exact congrArg iI (by omega)
  rw [e, show (0 : Int32) = iI ((0 : Nat) : Int) from iI_lit 0]
  exact sl_unusedC hW hF ans _ 0 (Nat.zero_add _)
theorem sl_unusedR {s : Nat → Nat} (hW : WF s) {t_row : Nat → Int32} {t_thrown : Int32} {t_allowedMany : Int32} {t_pointMany : Int32} {t_joyAt : Nat → Int32} {t_pointAt : Nat → Int32} {t_pointGain : Nat → Int32} {t_pointJoy : Nat → Int32} {t_pointTimes : Nat → Int32} {t_pointSet : Nat → Int32} {t_pointLight : Nat → Int32} {Q : Int32 → Int32 → Int32 → Int32 → (Nat → Int32) → (Nat → Int32) → (Nat → Int32) → (Nat → Int32) → (Nat → Int32) → (Nat → Int32) → (Nat → Int32) → Prop} (hpm : t_pointMany = iI (PN (HH s) : Nat)) (hC : coP s (s 1) (HH s) (2 ^ s 0) t_pointTimes t_pointSet t_pointLight) (hQ : Q (iI (unus s : Nat)) t_thrown t_allowedMany t_pointMany t_joyAt t_pointAt t_pointGain t_pointJoy t_pointTimes t_pointSet t_pointLight) :
    ∀ (d n : Nat), n + d = PN (HH s) → wp_X11_unused_L18 t_row t_thrown t_allowedMany t_pointMany t_joyAt t_pointAt t_pointGain t_pointJoy t_pointTimes t_pointSet t_pointLight Q (d + 1) (iI (anf (fun n => 4095 ^^^ CHo s n) (2 ^ s 0 - 1) n : Nat)) (iI (n : Nat)) := by
  have hN := PN_le (HH s)
  have hp := wf_pow hW
  have hp0 := Nat.two_pow_pos (s 0)
  intro d
  induction d with
  | zero =>
    intro n hn
    unfold wp_X11_unused_L18
    obtain rfl : n = PN (HH s) := by omega
    exact ⟨fun _ => hQ, fun z => absurd (by rw [hpm]; exact Int32.le_refl _) z⟩
  | succ d ih =>
    intro n hn
    have nx := ih (n + 1) (by omega)
    have hl := anf_lt (c := fun n => 4095 ^^^ CHo s n) (a := 2 ^ s 0 - 1) (M := 4096) (by omega) n
    unfold wp_X11_unused_L18
    have e0 : t_pointMany ≤ iI (n : Nat) ↔ (PN (HH s) : Int) ≤ (n : Int) := by rw [hpm, iI_le (by omega) (by omega) (by omega) (by omega)]
    rw [e0, iI_clN (by omega), hC.2.1 n (by omega) (tm_pos (by omega)), iI_andn hl, iI_succ]
    refine ⟨fun z => absurd z (by omega), fun _ => ⟨in_lit (by omega) (by omega), fun v hv => ?_⟩⟩
    subst hv
    exact nx
theorem sr_unused {s : Nat → Nat} (hW : WF s) {t_thrown : Int32} {t_allowedMany : Int32} {t_pointMany : Int32} {t_joyAt : Nat → Int32} {t_row : Nat → Int32} {t_pointAt : Nat → Int32} {t_pointGain : Nat → Int32} {t_pointJoy : Nat → Int32} {t_pointTimes : Nat → Int32} {t_pointSet : Nat → Int32} {t_pointLight : Nat → Int32} {Q : Int32 → Int32 → Int32 → Int32 → (Nat → Int32) → (Nat → Int32) → (Nat → Int32) → (Nat → Int32) → (Nat → Int32) → (Nat → Int32) → (Nat → Int32) → Prop} (hN : neP s t_row) (hQ : ∀ am pm ja pa g j ti ch li, Q (iI (unus s : Nat)) 0 am pm ja pa g j ti ch li) : wp_X11_unused t_thrown t_allowedMany t_pointMany t_joyAt t_row t_pointAt t_pointGain t_pointJoy t_pointTimes t_pointSet t_pointLight Q := by
  have hp := wf_pow hW
  have hp0 := Nat.two_pow_pos (s 0)
  unfold wp_X11_unused
  refine sp_layA hW hN fun am pm ja pa g j ti ch li hM hC => sp_allSets hW hN fun v hv => ⟨PN (HH s) + 1, ?_⟩
  have e : iI ((2 ^ s 0 : Nat) : Int) - 1 = iI ((2 ^ s 0 - 1 : Nat) : Int) := by
    rw [iI_lit 1, iI_sub]
    exact congrArg iI (by omega)
  rw [e] at hv
  subst hv
  have := sl_unusedR hW (t_row := t_row) (t_thrown := 0) (t_allowedMany := am) (t_joyAt := ja) (t_pointAt := pa) (t_pointGain := g) (t_pointJoy := j) hM.2.1 hC (hQ am pm ja pa g j ti ch li) (PN (HH s)) 0 (Nat.zero_add _)
  rw [iI_lit 0]
  exact this
/-- the least weight of a set that reaches both, of the sets below m -/
def lwf (s : Nat → Nat) (a b : Int32) : Nat → Nat
  | 0 => 1000
  | m + 1 => if sm s 0 m (s 0) < lwf s a b m ∧ a.toInt ≤ sm s 1 m (s 0) ∧ b.toInt ≤ sm s 2 m (s 0) ∧ rfb s m = 0 then sm s 0 m (s 0) else lwf s a b m
theorem lwf_le (s : Nat → Nat) (a b : Int32) : ∀ m, lwf s a b m ≤ 1000
  | 0 => Nat.le_refl _
  | m + 1 => by
    have := lwf_le s a b m
    simp only [lwf]
    split <;> omega
def cpf (s : Nat → Nat) (a b : Int32) : Int := if 999 < lwf s a b (2 ^ s 0) then -1 else (lwf s a b (2 ^ s 0) : Int)
theorem rfb_le (s : Nat → Nat) (set : Nat) : rfb s set ≤ 6 := by
  unfold rfb
  repeat' split
  all_goals omega
theorem sp_leastWeight {s : Nat → Nat} (hW : WF s) {sets lim must nev : Int32} {weight gain joy barred needed : Nat → Int32} (hP : chP s sets lim must nev weight gain joy barred needed) {a b : Int32} {Q : Int32 → Prop} (hQ : Q (iI (cpf s a b))) : wp_X0_leastWeight a b sets lim must nev weight gain joy barred needed Q := by
  have hp := wf_pow hW
  obtain ⟨p1, p2, p3, p4, p5, p6, p7, p8, p9⟩ := id hP
  have key : ∀ (d m : Nat), m + d = 2 ^ s 0 → wp_X0_leastWeight_L7 sets lim must nev weight gain joy barred needed a b Q (d + 1) (iI (lwf s a b m : Nat)) (iI (m : Nat)) := by
    intro d
    induction d with
    | zero =>
      intro m hm
      have hl := lwf_le s a b m
      unfold wp_X0_leastWeight_L7
      obtain rfl : m = 2 ^ s 0 := by omega
      refine ⟨fun _ => ?_, fun z => absurd (by rw [p1]; exact Int32.le_refl _) z⟩
      rw [iI_lit 999, iI_lt (by omega) (by omega) (by omega) (by omega)]
      unfold cpf at hQ
      refine ⟨fun c => ?_, fun c => ?_⟩
      · rw [if_pos (by omega)] at hQ; rw [iI_m1]; exact hQ
      · rw [if_neg (by omega)] at hQ; exact hQ
    | succ d ih =>
      intro m hm
      have nx := ih (m + 1) (by omega)
      have hl := lwf_le s a b m
      have w0 : sm s 0 m (s 0) ≤ 1188 := sm_bd hW (by omega) m
      have w1 : sm s 1 m (s 0) ≤ 1188 := sm_bd hW (by omega) m
      have w2 : sm s 2 m (s 0) ≤ 1188 := sm_bd hW (by omega) m
      have hr := rfb_le s m
      have hi : vp_in (iI (m : Nat)) 4096 := in_lit (by omega) (by omega)
      simp only [lwf] at nx
      unfold wp_X0_leastWeight_L7
      have e0 : sets ≤ iI (m : Nat) ↔ ((2 ^ s 0 : Nat) : Int) ≤ (m : Int) := by rw [p1, iI_le (by omega) (by omega) (by omega) (by omega)]
      have q1 : gain m < a ↔ (sm s 1 m (s 0) : Int) < a.toInt := by rw [p6 m (by omega), i_lt, iI_toInt (by omega) (by omega)]
      have q2 : joy m < b ↔ (sm s 2 m (s 0) : Int) < b.toInt := by rw [p7 m (by omega), i_lt, iI_toInt (by omega) (by omega)]
      rw [e0, iI_lit 4096, iI_le (by omega) (by omega) (by omega) (by omega), iI_clN (by omega), p5 m (by omega), iI_le (by omega) (by omega) (by omega) (by omega), q1, q2, iI_succ]
      refine ⟨fun z => absurd z (by omega), fun _ => ⟨fun z => absurd z (by omega), fun _ => ⟨hi, fun c => ?_, fun c => ⟨hi, fun c2 => ?_, fun c2 => ⟨hi, fun c3 => ?_, fun c3 => sp_reasonB hW (by omega) p2 p3 p4 (p8 m (by omega)) (p9 m (by omega)) ?_⟩⟩⟩⟩⟩
      · rw [if_neg (by omega)] at nx; exact nx
      · rw [if_neg (by omega)] at nx; exact nx
      · rw [if_neg (by omega)] at nx; exact nx
      · rw [iI_z (by omega)]
        refine ⟨fun c4 => ?_, fun c4 => ⟨hi, fun v hv => ?_⟩⟩
        · rw [if_neg (by omega)] at nx; exact nx
        · rw [if_pos (by omega)] at nx; subst hv; exact nx
  unfold wp_X0_leastWeight
  exact ⟨2 ^ s 0 + 1, by rw [iI_lit 0, iI_lit 1000]; exact key (2 ^ s 0) 0 (by omega)⟩
theorem sq_capacityFor {s : Nat → Nat} (hW : WF s) {hand : Int32} {p1 : Int32} {p2 : Int32} {t_frontierFresh : Int32} {t_now_items : Int32} {t_now_capacity : Int32} {t_now_limit : Int32} {t_now_mustSet : Int32} {t_now_neverSet : Int32} {t_choices_sets : Int32} {t_choices_limit : Int32} {t_choices_mustSet : Int32} {t_choices_neverSet : Int32} {t_choices_weight : Nat → Int32} {t_now_weight : Nat → Int32} {t_choices_gain : Nat → Int32} {t_now_gain : Nat → Int32} {t_choices_joy : Nat → Int32} {t_now_joy : Nat → Int32} {t_choices_barred : Nat → Int32} {t_now_bars : Nat → Int32} {t_choices_needed : Nat → Int32} {t_now_needs : Nat → Int32} {t_stairs_allowedCount : Int32} {t_stairs_joyAt : Nat → Int32} {t_frontier_size : Int32} {t_frontier_vertexCount : Int32} {t_frontier_allowedCount : Int32} {t_frontier_areaBelow : Int32} {t_frontier_pointAt : Nat → Int32} {t_frontier_gain : Nat → Int32} {t_frontier_joy : Nat → Int32} {t_frontier_choice : Nat → Int32} {t_frontier_times : Nat → Int32} {t_frontier_light : Nat → Int32} {t_frontier_mark : Nat → Int32} {t_frontier_vertexPoint : Nat → Int32} {Q : Int32 → Int32 → Int32 → Int32 → Int32 → Int32 → (Nat → Int32) → (Nat → Int32) → (Nat → Int32) → (Nat → Int32) → (Nat → Int32) → Int32 → (Nat → Int32) → Int32 → Int32 → Int32 → Int32 → (Nat → Int32) → (Nat → Int32) → (Nat → Int32) → (Nat → Int32) → (Nat → Int32) → (Nat → Int32) → (Nat → Int32) → (Nat → Int32) → Prop} (hS : suP s t_now_items t_now_capacity t_now_limit t_now_mustSet t_now_neverSet hand t_now_weight t_now_gain t_now_joy t_now_bars t_now_needs) (hD : dkP s t_frontierFresh t_choices_sets t_choices_limit t_choices_mustSet t_choices_neverSet t_choices_weight t_choices_gain t_choices_joy t_choices_barred t_choices_needed t_frontier_size t_frontier_vertexCount t_frontier_allowedCount t_frontier_areaBelow t_frontier_pointAt t_frontier_gain t_frontier_joy t_frontier_choice t_frontier_times t_frontier_light t_frontier_mark t_frontier_vertexPoint) (hQ : DQ s (Q (iI (cpf s p1 p2)))) : wp_X10_capacityFor p1 p2 t_frontierFresh t_now_items t_now_capacity t_now_limit t_now_mustSet t_now_neverSet t_choices_sets t_choices_limit t_choices_mustSet t_choices_neverSet t_choices_weight t_now_weight t_choices_gain t_now_gain t_choices_joy t_now_joy t_choices_barred t_now_bars t_choices_needed t_now_needs t_stairs_allowedCount t_stairs_joyAt t_frontier_size t_frontier_vertexCount t_frontier_allowedCount t_frontier_areaBelow t_frontier_pointAt t_frontier_gain t_frontier_joy t_frontier_choice t_frontier_times t_frontier_light t_frontier_mark t_frontier_vertexPoint Q := by
  unfold wp_X10_capacityFor
  exact sp_refresh hW hS hD fun sets lim must nev cw cg cj cb cn sac sja size vc ac area pa g j ch ti li mk vp hP hF => sp_leastWeight hW hP (hQ 1 sets lim must nev cw cg cj cb cn sac sja size vc ac area pa g j ch ti li mk vp (dkP_1 hP hF))
theorem rf_999 {s : Nat → Nat} {m : Nat} (h : sm s 0 m (s 0) ≤ 999) : rf s 999 m = rfb s m := by
  unfold rf
  rw [if_neg (by omega)]
theorem rfb_su1 {s : Nat → Nat} {v q : Nat} : rfb (su s 1 v) q = rfb s q := by
  unfold rfb
  rw [su_ne (by omega), su_ne (by omega), su_ne (by omega), su_ne (by omega), ors_su (by omega), ors_su (by omega)]
theorem sp_lightestFor {s : Nat → Nat} (hW : WF s) (h1 : s 1 = 999) {row : Nat → Int32} (hN : neP s row) {a b : Int32} {Q : Int32 → Prop} (hQ : Q (iI (lwf s a b (2 ^ s 0) : Nat))) : wp_X11_lightestFor a b row Q := by
  have hp := wf_pow hW
  have key : ∀ (d m : Nat), m + d = 2 ^ s 0 → wp_X11_lightestFor_L7 row a b Q (d + 1) (iI (lwf s a b m : Nat)) (iI (m : Nat)) := by
    intro d
    induction d with
    | zero =>
      intro m hm
      unfold wp_X11_lightestFor_L7
      obtain rfl : m = 2 ^ s 0 := by omega
      exact sp_allSets hW hN ⟨fun _ => hQ, fun z => absurd (Int32.le_refl _) z⟩
    | succ d ih =>
      intro m hm
      have nx := ih (m + 1) (by omega)
      have hl := lwf_le s a b m
      have w0 : sm s 0 m (s 0) ≤ 1188 := sm_bd hW (by omega) m
      have w1 : sm s 1 m (s 0) ≤ 1188 := sm_bd hW (by omega) m
      have w2 : sm s 2 m (s 0) ≤ 1188 := sm_bd hW (by omega) m
      have q1 : iI (sm s 1 m (s 0) : Nat) < a ↔ (sm s 1 m (s 0) : Int) < a.toInt := by rw [i_lt, iI_toInt (by omega) (by omega)]
      have q2 : iI (sm s 2 m (s 0) : Nat) < b ↔ (sm s 2 m (s 0) : Int) < b.toInt := by rw [i_lt, iI_toInt (by omega) (by omega)]
      simp only [lwf] at nx
      have no : ¬ (sm s 0 m (s 0) < lwf s a b m ∧ a.toInt ≤ sm s 1 m (s 0) ∧ b.toInt ≤ sm s 2 m (s 0) ∧ rfb s m = 0) → wp_X11_lightestFor_L7 row a b Q (d + 1) (iI (lwf s a b m : Nat)) (iI (m : Nat) + 1) := fun z => by rw [if_neg z] at nx; rw [iI_succ]; exact nx
      unfold wp_X11_lightestFor_L7
      refine sp_allSets hW hN ?_
      rw [iI_le (by omega) (by omega) (by omega) (by omega)]
      refine ⟨fun z => absurd z (by omega), fun _ => ?_⟩
      rw [iI_lit 0]
      refine sp_sumOf (w := 0) hW hN (by omega) (by omega) ?_
      rw [iI_le (by omega) (by omega) (by omega) (by omega)]
      refine ⟨fun c => no (by omega), fun c => ?_⟩
      rw [iI_lit 1]
      refine sp_sumOf (w := 1) hW hN (by omega) (by omega) ?_
      rw [q1]
      refine ⟨fun c2 => ?_, fun c2 => ?_⟩
      · exact no (by omega)
      rw [iI_lit 2]
      refine sp_sumOf (w := 2) hW hN (by omega) (by omega) ?_
      rw [q2]
      refine ⟨fun c3 => ?_, fun c3 => ?_⟩
      · exact no (by omega)
      refine sp_isAllowed hW hN (by omega) ?_
      have hr : rf s (s 1) m = rfb s m := by rw [h1]; exact rf_999 (by omega)
      rw [hr]
      by_cases c4 : rfb s m = 0
      · rw [if_pos c4]
        refine ⟨fun z => absurd z (by decide), fun _ => ?_⟩
        refine sp_sumOf (w := 0) hW hN (by omega) (by omega) ?_
        rw [if_pos (by omega)] at nx
        rw [← iI_lit 1, iI_succ]
        exact nx
      · rw [if_neg c4]
        refine ⟨fun _ => ?_, fun z => absurd (iI_lit 0).symm z⟩
        rw [← iI_lit 1]
        exact no (by omega)
  unfold wp_X11_lightestFor
  exact ⟨2 ^ s 0 + 1, by rw [iI_lit 0, iI_lit 1000]; exact key (2 ^ s 0) 0 (by omega)⟩
theorem lwf_su1 {s : Nat → Nat} {v : Nat} {a b : Int32} : ∀ m, lwf (su s 1 v) a b m = lwf s a b m
  | 0 => rfl
  | m + 1 => by
    simp only [lwf]
    rw [su_ne (show (0 : Nat) ≠ 1 by omega), sm_su (by omega), sm_su (by omega), sm_su (by omega), rfb_su1, lwf_su1 m]
theorem sr_capacityFor {s : Nat → Nat} (hW : WF s) {p1 : Int32} {p2 : Int32} {t_thrown : Int32} {t_net : Nat → Int32} {Q : Int32 → Int32 → (Nat → Int32) → Prop} (hN : neP s t_net) (hQ : ∀ net, neP s net → Q (iI (cpf s p1 p2)) 0 net) : wp_X11_capacityFor p1 p2 t_thrown t_net Q := by
  have hi : vp_in 1 66 := by rw [vp_in_iff]; decide
  have hl := lwf_le s p1 p2 (2 ^ s 0)
  unfold wp_X11_capacityFor
  rw [show (1 : Int32).toNatClampNeg = 1 from by decide]
  refine ⟨hi, fun v hv => ⟨hi, ?_⟩⟩
  refine sp_lightestFor (s := su s 1 999) (WF_su1 hW (by omega)) su_eq (neP_su hN (by omega) (by omega) (iI_lit 999)) ⟨hi, ?_⟩
  have ans := hQ _ (neP_back (x := 999) hN (k := 1) (by omega) hv)
  unfold cpf at ans
  rw [lwf_su1, su_ne (show (0 : Nat) ≠ 1 by omega)]
  have z : iI (lwf s p1 p2 (2 ^ s 0) : Nat) ≤ 999 ↔ lwf s p1 p2 (2 ^ s 0) ≤ 999 := by rw [iI_lit 999, iI_le (by omega) (by omega) (by omega) (by omega)]; omega
  rw [z]
  refine ⟨fun c => ?_, fun c => ?_⟩
  · rw [if_neg (by omega)] at ans; exact ans
  · rw [if_pos (by omega)] at ans; rw [iI_m1]; exact ans
