/-! MORE WALKS: joyFor, gainFor, fullest, gap, core, unused -/
def jfp (s : Nat → Nat) (p : Int32) (n : Nat) : Bool := decide (p.toInt ≤ PG (HH s) n)
def gfp (s : Nat → Nat) (p : Int32) (n : Nat) : Bool := decide (p.toInt ≤ PJ (HH s) n)
def jfv (s : Nat → Nat) (r : Int) : Int := if r = -1 then -1 else PJ (HH s) r.toNat
def gfv (s : Nat → Nat) (r : Int) : Int := if r = -1 then -1 else (PG (HH s) r.toNat : Int)
theorem jfv_m (s : Nat → Nat) : jfv s (-1) = -1 := rfl
theorem jfv_n (s : Nat → Nat) (n : Nat) : jfv s (n : Int) = PJ (HH s) n := by
  unfold jfv
  rw [if_neg (by omega), Int.toNat_natCast]
theorem gfv_n (s : Nat → Nat) (n : Nat) : gfv s (n : Int) = (PG (HH s) n : Int) := by
  unfold gfv
  rw [if_neg (by omega), Int.toNat_natCast]
theorem sl_joyForC {s : Nat → Nat} (hW : WF s) {t_now_items : Int32} {t_now_capacity : Int32} {t_now_limit : Int32} {t_now_mustSet : Int32} {t_now_neverSet : Int32} {t_now_weight : Nat → Int32} {t_now_gain : Nat → Int32} {t_now_joy : Nat → Int32} {t_now_bars : Nat → Int32} {t_now_needs : Nat → Int32} {x1 : Int32} {t_frontierFresh : Int32} {t_choices_sets : Int32} {t_choices_limit : Int32} {t_choices_mustSet : Int32} {t_choices_neverSet : Int32} {t_choices_weight : Nat → Int32} {t_choices_gain : Nat → Int32} {t_choices_joy : Nat → Int32} {t_choices_barred : Nat → Int32} {t_choices_needed : Nat → Int32} {t_stairs_allowedCount : Int32} {t_stairs_joyAt : Nat → Int32} {t_frontier_size : Int32} {t_frontier_vertexCount : Int32} {t_frontier_allowedCount : Int32} {t_frontier_areaBelow : Int32} {t_frontier_pointAt : Nat → Int32} {t_frontier_gain : Nat → Int32} {t_frontier_joy : Nat → Int32} {t_frontier_choice : Nat → Int32} {t_frontier_times : Nat → Int32} {t_frontier_light : Nat → Int32} {t_frontier_mark : Nat → Int32} {t_frontier_vertexPoint : Nat → Int32} {Q : Int32 → Int32 → Int32 → Int32 → Int32 → Int32 → (Nat → Int32) → (Nat → Int32) → (Nat → Int32) → (Nat → Int32) → (Nat → Int32) → Int32 → (Nat → Int32) → Int32 → Int32 → Int32 → Int32 → (Nat → Int32) → (Nat → Int32) → (Nat → Int32) → (Nat → Int32) → (Nat → Int32) → (Nat → Int32) → (Nat → Int32) → (Nat → Int32) → Prop} (hF : frP s t_frontier_size t_frontier_vertexCount t_frontier_allowedCount t_frontier_areaBelow t_frontier_pointAt t_frontier_gain t_frontier_joy t_frontier_choice t_frontier_times t_frontier_light t_frontier_mark t_frontier_vertexPoint) :
    ∀ (d n : Nat), n + d = PN (HH s) → Q (iI (jfv s (ff (jfp s x1) d n))) t_frontierFresh t_choices_sets t_choices_limit t_choices_mustSet t_choices_neverSet t_choices_weight t_choices_gain t_choices_joy t_choices_barred t_choices_needed t_stairs_allowedCount t_stairs_joyAt t_frontier_size t_frontier_vertexCount t_frontier_allowedCount t_frontier_areaBelow t_frontier_pointAt t_frontier_gain t_frontier_joy t_frontier_choice t_frontier_times t_frontier_light t_frontier_mark t_frontier_vertexPoint → wp_X10_joyFor_L6 t_now_items t_now_capacity t_now_limit t_now_mustSet t_now_neverSet t_now_weight t_now_gain t_now_joy t_now_bars t_now_needs x1 t_frontierFresh t_choices_sets t_choices_limit t_choices_mustSet t_choices_neverSet t_choices_weight t_choices_gain t_choices_joy t_choices_barred t_choices_needed t_stairs_allowedCount t_stairs_joyAt t_frontier_size t_frontier_vertexCount t_frontier_allowedCount t_frontier_areaBelow t_frontier_pointAt t_frontier_gain t_frontier_joy t_frontier_choice t_frontier_times t_frontier_light t_frontier_mark t_frontier_vertexPoint Q (d + 1) (iI (n : Nat)) := by
  have hN := PN_le (HH s)
  intro d
  induction d with
  | zero =>
    intro n hn hQ
    unfold wp_X10_joyFor_L6
    obtain rfl : n = PN (HH s) := by omega
    refine ⟨fun _ => ?_, fun z => absurd (by rw [hF.1]; exact Int32.le_refl _) z⟩
    rw [iI_m1]
    exact hQ
  | succ d ih =>
    intro n hn hQ
    unfold wp_X10_joyFor_L6
    have hg := PG_rng (h := HH s) (n := n) (by omega)
    have hi : vp_in (iI (n : Nat)) 1189 := in_lit (by omega) (by omega)
    have e0 : t_frontier_size ≤ iI (n : Nat) ↔ (PN (HH s) : Int) ≤ (n : Int) := by rw [hF.1, iI_le (by omega) (by omega) (by omega) (by omega)]
    rw [e0, iI_clN (by omega), hF.2.2.2.2.1.1 n (by omega), hF.2.2.2.2.1.2 n (by omega), i_lt, iI_toInt (by omega) (by omega), iI_succ]
    simp only [ff] at hQ
    refine ⟨fun z => absurd z (by omega), fun _ => ⟨hi, fun c => ?_, fun c => ⟨hi, ?_⟩⟩⟩
    · rw [if_neg (by simp only [jfp, decide_eq_true_eq]; omega)] at hQ
      exact ih (n + 1) (by omega) hQ
    · rw [if_pos (by simp only [jfp, decide_eq_true_eq]; omega), jfv_n] at hQ
      exact hQ
theorem sq_joyFor {s : Nat → Nat} (hW : WF s) {hand : Int32} {p1 : Int32} {t_frontierFresh : Int32} {t_now_items : Int32} {t_now_capacity : Int32} {t_now_limit : Int32} {t_now_mustSet : Int32} {t_now_neverSet : Int32} {t_choices_sets : Int32} {t_choices_limit : Int32} {t_choices_mustSet : Int32} {t_choices_neverSet : Int32} {t_choices_weight : Nat → Int32} {t_now_weight : Nat → Int32} {t_choices_gain : Nat → Int32} {t_now_gain : Nat → Int32} {t_choices_joy : Nat → Int32} {t_now_joy : Nat → Int32} {t_choices_barred : Nat → Int32} {t_now_bars : Nat → Int32} {t_choices_needed : Nat → Int32} {t_now_needs : Nat → Int32} {t_stairs_allowedCount : Int32} {t_stairs_joyAt : Nat → Int32} {t_frontier_size : Int32} {t_frontier_vertexCount : Int32} {t_frontier_allowedCount : Int32} {t_frontier_areaBelow : Int32} {t_frontier_pointAt : Nat → Int32} {t_frontier_gain : Nat → Int32} {t_frontier_joy : Nat → Int32} {t_frontier_choice : Nat → Int32} {t_frontier_times : Nat → Int32} {t_frontier_light : Nat → Int32} {t_frontier_mark : Nat → Int32} {t_frontier_vertexPoint : Nat → Int32} {Q : Int32 → Int32 → Int32 → Int32 → Int32 → Int32 → (Nat → Int32) → (Nat → Int32) → (Nat → Int32) → (Nat → Int32) → (Nat → Int32) → Int32 → (Nat → Int32) → Int32 → Int32 → Int32 → Int32 → (Nat → Int32) → (Nat → Int32) → (Nat → Int32) → (Nat → Int32) → (Nat → Int32) → (Nat → Int32) → (Nat → Int32) → (Nat → Int32) → Prop} (hS : suP s t_now_items t_now_capacity t_now_limit t_now_mustSet t_now_neverSet hand t_now_weight t_now_gain t_now_joy t_now_bars t_now_needs) (hD : dkP s t_frontierFresh t_choices_sets t_choices_limit t_choices_mustSet t_choices_neverSet t_choices_weight t_choices_gain t_choices_joy t_choices_barred t_choices_needed t_frontier_size t_frontier_vertexCount t_frontier_allowedCount t_frontier_areaBelow t_frontier_pointAt t_frontier_gain t_frontier_joy t_frontier_choice t_frontier_times t_frontier_light t_frontier_mark t_frontier_vertexPoint) (hQ : DQ s (Q (iI (jfv s (ff (jfp s p1) (PN (HH s)) 0))))) : wp_X10_joyFor p1 t_frontierFresh t_now_items t_now_capacity t_now_limit t_now_mustSet t_now_neverSet t_choices_sets t_choices_limit t_choices_mustSet t_choices_neverSet t_choices_weight t_now_weight t_choices_gain t_now_gain t_choices_joy t_now_joy t_choices_barred t_now_bars t_choices_needed t_now_needs t_stairs_allowedCount t_stairs_joyAt t_frontier_size t_frontier_vertexCount t_frontier_allowedCount t_frontier_areaBelow t_frontier_pointAt t_frontier_gain t_frontier_joy t_frontier_choice t_frontier_times t_frontier_light t_frontier_mark t_frontier_vertexPoint Q := by
  unfold wp_X10_joyFor
  refine sp_refresh hW hS hD fun sets lim must nev cw cg cj cb cn sac sja size vc ac area pa g j ch ti li mk vp hP hF => ⟨PN (HH s) + 1, ?_⟩
  rw [show (0 : Int32) = iI ((0 : Nat) : Int) from iI_lit 0]
  exact sl_joyForC hW hF _ 0 (by omega) (hQ 1 sets lim must nev cw cg cj cb cn sac sja size vc ac area pa g j ch ti li mk vp (dkP_1 hP hF))
theorem sl_joyForR {s : Nat → Nat} (hW : WF s) {t_row : Nat → Int32} {x1 : Int32} {t_thrown : Int32} {t_allowedMany : Int32} {t_pointMany : Int32} {t_joyAt : Nat → Int32} {t_pointAt : Nat → Int32} {t_pointGain : Nat → Int32} {t_pointJoy : Nat → Int32} {t_pointTimes : Nat → Int32} {Q : Int32 → Int32 → Int32 → Int32 → (Nat → Int32) → (Nat → Int32) → (Nat → Int32) → (Nat → Int32) → (Nat → Int32) → Prop} (hpm : t_pointMany = iI (PN (HH s) : Nat)) (hG : ptG (HH s) t_pointGain t_pointJoy) :
    ∀ (d n : Nat), n + d = PN (HH s) → Q (iI (jfv s (ff (jfp s x1) d n))) t_thrown t_allowedMany t_pointMany t_joyAt t_pointAt t_pointGain t_pointJoy t_pointTimes → wp_X11_joyFor_L11 t_row x1 t_thrown t_allowedMany t_pointMany t_joyAt t_pointAt t_pointGain t_pointJoy t_pointTimes Q (d + 1) (iI (n : Nat)) := by
  have hN := PN_le (HH s)
  intro d
  induction d with
  | zero =>
    intro n hn hQ
    unfold wp_X11_joyFor_L11
    obtain rfl : n = PN (HH s) := by omega
    refine ⟨fun _ => ?_, fun z => absurd (by rw [hpm]; exact Int32.le_refl _) z⟩
    rw [iI_m1]
    exact hQ
  | succ d ih =>
    intro n hn hQ
    unfold wp_X11_joyFor_L11
    have hg := PG_rng (h := HH s) (n := n) (by omega)
    have hi : vp_in (iI (n : Nat)) 1189 := in_lit (by omega) (by omega)
    have e0 : t_pointMany ≤ iI (n : Nat) ↔ (PN (HH s) : Int) ≤ (n : Int) := by rw [hpm, iI_le (by omega) (by omega) (by omega) (by omega)]
    rw [e0, iI_clN (by omega), hG.1 n (by omega), hG.2 n (by omega), i_lt, iI_toInt (by omega) (by omega), iI_succ]
    simp only [ff] at hQ
    refine ⟨fun z => absurd z (by omega), fun _ => ⟨hi, fun c => ?_, fun c => ⟨hi, ?_⟩⟩⟩
    · rw [if_neg (by simp only [jfp, decide_eq_true_eq]; omega)] at hQ
      exact ih (n + 1) (by omega) hQ
    · rw [if_pos (by simp only [jfp, decide_eq_true_eq]; omega), jfv_n] at hQ
      exact hQ
theorem sr_joyFor {s : Nat → Nat} (hW : WF s) {p1 : Int32} {t_thrown : Int32} {t_allowedMany : Int32} {t_pointMany : Int32} {t_joyAt : Nat → Int32} {t_row : Nat → Int32} {t_pointAt : Nat → Int32} {t_pointGain : Nat → Int32} {t_pointJoy : Nat → Int32} {t_pointTimes : Nat → Int32} {Q : Int32 → Int32 → Int32 → Int32 → (Nat → Int32) → (Nat → Int32) → (Nat → Int32) → (Nat → Int32) → (Nat → Int32) → Prop} (hN : neP s t_row) (hQ : ∀ am pm ja pa g j ti, Q (iI (jfv s (ff (jfp s p1) (PN (HH s)) 0))) 0 am pm ja pa g j ti) : wp_X11_joyFor p1 t_thrown t_allowedMany t_pointMany t_joyAt t_row t_pointAt t_pointGain t_pointJoy t_pointTimes Q := by
  unfold wp_X11_joyFor
  refine sp_layP hW hN fun am pm ja pa g j ti hM hT => ⟨PN (HH s) + 1, ?_⟩
  have := sl_joyForR hW (t_row := t_row) (t_thrown := 0) (t_allowedMany := am) (t_joyAt := ja) (t_pointAt := pa) (t_pointTimes := ti) hM.2.1 hM.2.2.2.2 (PN (HH s)) 0 (Nat.zero_add _) (hQ _ _ _ _ _ _ _)
  rw [show iI ((0 : Nat) : Int) = (0 : Int32) from (iI_lit 0).symm] at this
  exact this
theorem iI_pred (n : Nat) : iI (((n + 1 : Nat) : Int) - 1) = iI (n : Nat) := congrArg iI (by omega)
theorem iI_addm1 (z : Int) : iI z + (-1 : Int32) = iI (z - 1) := by
  rw [iI_m1, iI_add]
  exact congrArg iI (by omega)
theorem sl_gainForC {s : Nat → Nat} (hW : WF s) {t_now_items : Int32} {t_now_capacity : Int32} {t_now_limit : Int32} {t_now_mustSet : Int32} {t_now_neverSet : Int32} {t_now_weight : Nat → Int32} {t_now_gain : Nat → Int32} {t_now_joy : Nat → Int32} {t_now_bars : Nat → Int32} {t_now_needs : Nat → Int32} {x1 : Int32} {t_frontierFresh : Int32} {t_choices_sets : Int32} {t_choices_limit : Int32} {t_choices_mustSet : Int32} {t_choices_neverSet : Int32} {t_choices_weight : Nat → Int32} {t_choices_gain : Nat → Int32} {t_choices_joy : Nat → Int32} {t_choices_barred : Nat → Int32} {t_choices_needed : Nat → Int32} {t_stairs_allowedCount : Int32} {t_stairs_joyAt : Nat → Int32} {t_frontier_size : Int32} {t_frontier_vertexCount : Int32} {t_frontier_allowedCount : Int32} {t_frontier_areaBelow : Int32} {t_frontier_pointAt : Nat → Int32} {t_frontier_gain : Nat → Int32} {t_frontier_joy : Nat → Int32} {t_frontier_choice : Nat → Int32} {t_frontier_times : Nat → Int32} {t_frontier_light : Nat → Int32} {t_frontier_mark : Nat → Int32} {t_frontier_vertexPoint : Nat → Int32} {Q : Int32 → Int32 → Int32 → Int32 → Int32 → Int32 → (Nat → Int32) → (Nat → Int32) → (Nat → Int32) → (Nat → Int32) → (Nat → Int32) → Int32 → (Nat → Int32) → Int32 → Int32 → Int32 → Int32 → (Nat → Int32) → (Nat → Int32) → (Nat → Int32) → (Nat → Int32) → (Nat → Int32) → (Nat → Int32) → (Nat → Int32) → (Nat → Int32) → Prop} (hF : frP s t_frontier_size t_frontier_vertexCount t_frontier_allowedCount t_frontier_areaBelow t_frontier_pointAt t_frontier_gain t_frontier_joy t_frontier_choice t_frontier_times t_frontier_light t_frontier_mark t_frontier_vertexPoint) :
    ∀ (n : Nat), n ≤ PN (HH s) → Q (iI (gfv s (fl (gfp s x1) n))) t_frontierFresh t_choices_sets t_choices_limit t_choices_mustSet t_choices_neverSet t_choices_weight t_choices_gain t_choices_joy t_choices_barred t_choices_needed t_stairs_allowedCount t_stairs_joyAt t_frontier_size t_frontier_vertexCount t_frontier_allowedCount t_frontier_areaBelow t_frontier_pointAt t_frontier_gain t_frontier_joy t_frontier_choice t_frontier_times t_frontier_light t_frontier_mark t_frontier_vertexPoint → wp_X10_gainFor_L14 t_now_items t_now_capacity t_now_limit t_now_mustSet t_now_neverSet t_now_weight t_now_gain t_now_joy t_now_bars t_now_needs x1 t_frontierFresh t_choices_sets t_choices_limit t_choices_mustSet t_choices_neverSet t_choices_weight t_choices_gain t_choices_joy t_choices_barred t_choices_needed t_stairs_allowedCount t_stairs_joyAt t_frontier_size t_frontier_vertexCount t_frontier_allowedCount t_frontier_areaBelow t_frontier_pointAt t_frontier_gain t_frontier_joy t_frontier_choice t_frontier_times t_frontier_light t_frontier_mark t_frontier_vertexPoint Q (n + 1) (iI ((n : Int) - 1)) := by
  have hN := PN_le (HH s)
  have hs := HH_stP hW
  intro n
  induction n with
  | zero =>
    intro hn hQ
    unfold wp_X10_gainFor_L14
    rw [i_lt0, iI_toInt (by omega) (by omega)]
    refine ⟨fun _ => ?_, fun z => absurd (by omega) z⟩
    rw [iI_m1]
    exact hQ
  | succ n ih =>
    intro hn hQ
    unfold wp_X10_gainFor_L14
    have hg := PJ_rng hs (n := n) (by omega)
    have hi : vp_in (iI (n : Nat)) 1189 := in_lit (by omega) (by omega)
    rw [iI_pred, i_lt0, iI_toInt (by omega) (by omega), iI_clN (by omega), hF.2.2.2.2.1.1 n (by omega), hF.2.2.2.2.1.2 n (by omega), i_lt, iI_toInt (by omega) (by omega), iI_addm1]
    simp only [fl] at hQ
    refine ⟨fun z => absurd z (by omega), fun _ => ⟨hi, fun c => ?_, fun c => ⟨hi, ?_⟩⟩⟩
    · rw [if_neg (by simp only [gfp, decide_eq_true_eq]; omega)] at hQ
      exact ih (by omega) hQ
    · rw [if_pos (by simp only [gfp, decide_eq_true_eq]; omega), gfv_n] at hQ
      exact hQ
theorem sq_gainFor {s : Nat → Nat} (hW : WF s) {hand : Int32} {p1 : Int32} {t_frontierFresh : Int32} {t_now_items : Int32} {t_now_capacity : Int32} {t_now_limit : Int32} {t_now_mustSet : Int32} {t_now_neverSet : Int32} {t_choices_sets : Int32} {t_choices_limit : Int32} {t_choices_mustSet : Int32} {t_choices_neverSet : Int32} {t_choices_weight : Nat → Int32} {t_now_weight : Nat → Int32} {t_choices_gain : Nat → Int32} {t_now_gain : Nat → Int32} {t_choices_joy : Nat → Int32} {t_now_joy : Nat → Int32} {t_choices_barred : Nat → Int32} {t_now_bars : Nat → Int32} {t_choices_needed : Nat → Int32} {t_now_needs : Nat → Int32} {t_stairs_allowedCount : Int32} {t_stairs_joyAt : Nat → Int32} {t_frontier_size : Int32} {t_frontier_vertexCount : Int32} {t_frontier_allowedCount : Int32} {t_frontier_areaBelow : Int32} {t_frontier_pointAt : Nat → Int32} {t_frontier_gain : Nat → Int32} {t_frontier_joy : Nat → Int32} {t_frontier_choice : Nat → Int32} {t_frontier_times : Nat → Int32} {t_frontier_light : Nat → Int32} {t_frontier_mark : Nat → Int32} {t_frontier_vertexPoint : Nat → Int32} {Q : Int32 → Int32 → Int32 → Int32 → Int32 → Int32 → (Nat → Int32) → (Nat → Int32) → (Nat → Int32) → (Nat → Int32) → (Nat → Int32) → Int32 → (Nat → Int32) → Int32 → Int32 → Int32 → Int32 → (Nat → Int32) → (Nat → Int32) → (Nat → Int32) → (Nat → Int32) → (Nat → Int32) → (Nat → Int32) → (Nat → Int32) → (Nat → Int32) → Prop} (hS : suP s t_now_items t_now_capacity t_now_limit t_now_mustSet t_now_neverSet hand t_now_weight t_now_gain t_now_joy t_now_bars t_now_needs) (hD : dkP s t_frontierFresh t_choices_sets t_choices_limit t_choices_mustSet t_choices_neverSet t_choices_weight t_choices_gain t_choices_joy t_choices_barred t_choices_needed t_frontier_size t_frontier_vertexCount t_frontier_allowedCount t_frontier_areaBelow t_frontier_pointAt t_frontier_gain t_frontier_joy t_frontier_choice t_frontier_times t_frontier_light t_frontier_mark t_frontier_vertexPoint) (hQ : DQ s (Q (iI (gfv s (fl (gfp s p1) (PN (HH s))))))) : wp_X10_gainFor p1 t_frontierFresh t_now_items t_now_capacity t_now_limit t_now_mustSet t_now_neverSet t_choices_sets t_choices_limit t_choices_mustSet t_choices_neverSet t_choices_weight t_now_weight t_choices_gain t_now_gain t_choices_joy t_now_joy t_choices_barred t_now_bars t_choices_needed t_now_needs t_stairs_allowedCount t_stairs_joyAt t_frontier_size t_frontier_vertexCount t_frontier_allowedCount t_frontier_areaBelow t_frontier_pointAt t_frontier_gain t_frontier_joy t_frontier_choice t_frontier_times t_frontier_light t_frontier_mark t_frontier_vertexPoint Q := by
  unfold wp_X10_gainFor
  refine sp_refresh hW hS hD fun sets lim must nev cw cg cj cb cn sac sja size vc ac area pa g j ch ti li mk vp hP hF v hv => ⟨PN (HH s) + 1, ?_⟩
  rw [hF.1, iI_lit 1, iI_sub] at hv
  subst hv
  exact sl_gainForC hW hF _ (Nat.le_refl _) (hQ 1 sets lim must nev cw cg cj cb cn sac sja size vc ac area pa g j ch ti li mk vp (dkP_1 hP hF))
theorem sl_gainForR {s : Nat → Nat} (hW : WF s) {t_row : Nat → Int32} {x1 : Int32} {t_thrown : Int32} {t_allowedMany : Int32} {t_pointMany : Int32} {t_joyAt : Nat → Int32} {t_pointAt : Nat → Int32} {t_pointGain : Nat → Int32} {t_pointJoy : Nat → Int32} {t_pointTimes : Nat → Int32} {Q : Int32 → Int32 → Int32 → Int32 → (Nat → Int32) → (Nat → Int32) → (Nat → Int32) → (Nat → Int32) → (Nat → Int32) → Prop} (hG : ptG (HH s) t_pointGain t_pointJoy) :
    ∀ (n : Nat), n ≤ PN (HH s) → Q (iI (gfv s (fl (gfp s x1) n))) t_thrown t_allowedMany t_pointMany t_joyAt t_pointAt t_pointGain t_pointJoy t_pointTimes → wp_X11_gainFor_L16 t_row x1 t_thrown t_allowedMany t_pointMany t_joyAt t_pointAt t_pointGain t_pointJoy t_pointTimes Q (n + 1) (iI ((n : Int) - 1)) := by
  have hN := PN_le (HH s)
  have hs := HH_stP hW
  intro n
  induction n with
  | zero =>
    intro hn hQ
    unfold wp_X11_gainFor_L16
    rw [i_lt0, iI_toInt (by omega) (by omega)]
    refine ⟨fun _ => ?_, fun z => absurd (by omega) z⟩
    rw [iI_m1]
    exact hQ
  | succ n ih =>
    intro hn hQ
    unfold wp_X11_gainFor_L16
    have hg := PJ_rng hs (n := n) (by omega)
    have hi : vp_in (iI (n : Nat)) 1189 := in_lit (by omega) (by omega)
    rw [iI_pred, i_lt0, iI_toInt (by omega) (by omega), iI_clN (by omega), hG.1 n (by omega), hG.2 n (by omega), i_lt, iI_toInt (by omega) (by omega), iI_addm1]
    simp only [fl] at hQ
    refine ⟨fun z => absurd z (by omega), fun _ => ⟨hi, fun c => ?_, fun c => ⟨hi, ?_⟩⟩⟩
    · rw [if_neg (by simp only [gfp, decide_eq_true_eq]; omega)] at hQ
      exact ih (by omega) hQ
    · rw [if_pos (by simp only [gfp, decide_eq_true_eq]; omega), gfv_n] at hQ
      exact hQ
theorem sr_gainFor {s : Nat → Nat} (hW : WF s) {p1 : Int32} {t_thrown : Int32} {t_allowedMany : Int32} {t_pointMany : Int32} {t_joyAt : Nat → Int32} {t_row : Nat → Int32} {t_pointAt : Nat → Int32} {t_pointGain : Nat → Int32} {t_pointJoy : Nat → Int32} {t_pointTimes : Nat → Int32} {Q : Int32 → Int32 → Int32 → Int32 → (Nat → Int32) → (Nat → Int32) → (Nat → Int32) → (Nat → Int32) → (Nat → Int32) → Prop} (hN : neP s t_row) (hQ : ∀ am pm ja pa g j ti, Q (iI (gfv s (fl (gfp s p1) (PN (HH s))))) 0 am pm ja pa g j ti) : wp_X11_gainFor p1 t_thrown t_allowedMany t_pointMany t_joyAt t_row t_pointAt t_pointGain t_pointJoy t_pointTimes Q := by
  unfold wp_X11_gainFor
  refine sp_layP hW hN fun am pm ja pa g j ti hM hT v hv => ⟨PN (HH s) + 1, ?_⟩
  rw [hM.2.1, iI_lit 1, iI_sub] at hv
  subst hv
  exact sl_gainForR hW hM.2.2.2.2 _ (Nat.le_refl _) (hQ _ _ _ _ _ _ _)
/-- the gap behind point k -/
def gpv (s : Nat → Nat) (k : Nat) : Int := ((PG (HH s) (k + 1) : Int) - PG (HH s) k) * (PJ (HH s) k - PJ (HH s) (k + 1))
theorem gpv_rng {s : Nat → Nat} (hW : WF s) {k : Nat} (hk : k + 1 < PN (HH s)) : 0 < gpv s k ∧ gpv s k ≤ 1411344 := by
  have hs := HH_stP hW
  have h1 := PG_lt (h := HH s) (a := k) (b := k + 1) (by omega) hk
  have h2 := PJ_lt hs (a := k) (b := k + 1) (by omega) hk
  have g1 := PG_rng (h := HH s) (n := k + 1) hk
  have j1 := PJ_rng hs (n := k) (by omega)
  have j2 := PJ_rng hs (n := k + 1) (by omega)
  have j3 : HS s (s 1) 0 = HH s := rfl
  unfold gpv
  constructor
  · exact Int.mul_pos (by omega) (by omega)
  · have : ((PG (HH s) (k + 1) : Int) - PG (HH s) k) * (PJ (HH s) k - PJ (HH s) (k + 1)) ≤ 1188 * 1188 := Int.mul_le_mul (by omega) (by omega) (by omega) (by omega)
    omega
theorem sl_gapC {s : Nat → Nat} (hW : WF s) {t_now_items : Int32} {t_now_capacity : Int32} {t_now_limit : Int32} {t_now_mustSet : Int32} {t_now_neverSet : Int32} {t_now_weight : Nat → Int32} {t_now_gain : Nat → Int32} {t_now_joy : Nat → Int32} {t_now_bars : Nat → Int32} {t_now_needs : Nat → Int32} {t_frontierFresh : Int32} {t_choices_sets : Int32} {t_choices_limit : Int32} {t_choices_mustSet : Int32} {t_choices_neverSet : Int32} {t_choices_weight : Nat → Int32} {t_choices_gain : Nat → Int32} {t_choices_joy : Nat → Int32} {t_choices_barred : Nat → Int32} {t_choices_needed : Nat → Int32} {t_stairs_allowedCount : Int32} {t_stairs_joyAt : Nat → Int32} {t_frontier_size : Int32} {t_frontier_vertexCount : Int32} {t_frontier_allowedCount : Int32} {t_frontier_areaBelow : Int32} {t_frontier_pointAt : Nat → Int32} {t_frontier_gain : Nat → Int32} {t_frontier_joy : Nat → Int32} {t_frontier_choice : Nat → Int32} {t_frontier_times : Nat → Int32} {t_frontier_light : Nat → Int32} {t_frontier_mark : Nat → Int32} {t_frontier_vertexPoint : Nat → Int32} {Q : Int32 → Int32 → Int32 → Int32 → Int32 → Int32 → (Nat → Int32) → (Nat → Int32) → (Nat → Int32) → (Nat → Int32) → (Nat → Int32) → Int32 → (Nat → Int32) → Int32 → Int32 → Int32 → Int32 → (Nat → Int32) → (Nat → Int32) → (Nat → Int32) → (Nat → Int32) → (Nat → Int32) → (Nat → Int32) → (Nat → Int32) → (Nat → Int32) → Prop} (hF : frP s t_frontier_size t_frontier_vertexCount t_frontier_allowedCount t_frontier_areaBelow t_frontier_pointAt t_frontier_gain t_frontier_joy t_frontier_choice t_frontier_times t_frontier_light t_frontier_mark t_frontier_vertexPoint) (hQ : Q (iI (gb (gpv s) (PN (HH s) - 1))) t_frontierFresh t_choices_sets t_choices_limit t_choices_mustSet t_choices_neverSet t_choices_weight t_choices_gain t_choices_joy t_choices_barred t_choices_needed t_stairs_allowedCount t_stairs_joyAt t_frontier_size t_frontier_vertexCount t_frontier_allowedCount t_frontier_areaBelow t_frontier_pointAt t_frontier_gain t_frontier_joy t_frontier_choice t_frontier_times t_frontier_light t_frontier_mark t_frontier_vertexPoint) :
    ∀ (d k : Nat), k + d = PN (HH s) - 1 → wp_X10_gap_L10 t_now_items t_now_capacity t_now_limit t_now_mustSet t_now_neverSet t_now_weight t_now_gain t_now_joy t_now_bars t_now_needs t_frontierFresh t_choices_sets t_choices_limit t_choices_mustSet t_choices_neverSet t_choices_weight t_choices_gain t_choices_joy t_choices_barred t_choices_needed t_stairs_allowedCount t_stairs_joyAt t_frontier_size t_frontier_vertexCount t_frontier_allowedCount t_frontier_areaBelow t_frontier_pointAt t_frontier_gain t_frontier_joy t_frontier_choice t_frontier_times t_frontier_light t_frontier_mark t_frontier_vertexPoint Q (d + 1) (iI (gb (gpv s) k)) (iI (gv 0 (gpv s) k)) (iI (k : Nat)) := by
  have hN := PN_le (HH s)
  intro d
  induction d with
  | zero =>
    intro k hk
    unfold wp_X10_gap_L10
    obtain rfl : k = PN (HH s) - 1 := by omega
    have e0 : t_frontier_size ≤ iI ((PN (HH s) - 1 : Nat) : Int) + 1 := by rw [hF.1, iI_succ, iI_le (by omega) (by omega) (by omega) (by omega)]; omega
    exact ⟨fun _ => hQ, fun z => absurd e0 z⟩
  | succ d ih =>
    intro k hk
    have nx := ih (k + 1) (by omega)
    have hv := gpv_rng hW (k := k) (by omega)
    have hg := gv_rng (v := gpv s) (i0 := 0) (a := 0) (b := 1411344) (n := k) (fun m hm => by have := gpv_rng hW (k := m) (by omega); omega) (by omega)
    unfold wp_X10_gap_L10
    have e0 : t_frontier_size ≤ iI ((k + 1 : Nat) : Int) ↔ (PN (HH s) : Int) ≤ ((k + 1 : Nat) : Int) := by rw [hF.1, iI_le (by omega) (by omega) (by omega) (by omega)]
    have ex : iI (k : Nat) + (1 : Int32) = iI ((k + 1 : Nat) : Int) := iI_succ k
    rw [ex, e0]
    refine ⟨fun z => absurd z (by omega), fun _ => sp_gainWon hF.2.2.2.2.1 (by omega) (by omega) (sp_joyLost hF.2.2.2.2.1 (by omega) (by omega) ?_)⟩
    intro v hv2
    rw [iI_mul] at hv2
    have hv3 : v = iI (gpv s k) := hv2
    subst hv3
    rw [iI_le (by omega) (by omega) (by omega) (by omega)]
    refine ⟨fun c => ?_, fun c => ?_⟩
    · rw [gb_keep (by omega) c, gv_keep (by omega) c] at nx; exact nx
    · rw [gb_take c, gv_take c] at nx; exact nx
theorem sq_gap {s : Nat → Nat} (hW : WF s) {hand : Int32} {t_frontierFresh : Int32} {t_now_items : Int32} {t_now_capacity : Int32} {t_now_limit : Int32} {t_now_mustSet : Int32} {t_now_neverSet : Int32} {t_choices_sets : Int32} {t_choices_limit : Int32} {t_choices_mustSet : Int32} {t_choices_neverSet : Int32} {t_choices_weight : Nat → Int32} {t_now_weight : Nat → Int32} {t_choices_gain : Nat → Int32} {t_now_gain : Nat → Int32} {t_choices_joy : Nat → Int32} {t_now_joy : Nat → Int32} {t_choices_barred : Nat → Int32} {t_now_bars : Nat → Int32} {t_choices_needed : Nat → Int32} {t_now_needs : Nat → Int32} {t_stairs_allowedCount : Int32} {t_stairs_joyAt : Nat → Int32} {t_frontier_size : Int32} {t_frontier_vertexCount : Int32} {t_frontier_allowedCount : Int32} {t_frontier_areaBelow : Int32} {t_frontier_pointAt : Nat → Int32} {t_frontier_gain : Nat → Int32} {t_frontier_joy : Nat → Int32} {t_frontier_choice : Nat → Int32} {t_frontier_times : Nat → Int32} {t_frontier_light : Nat → Int32} {t_frontier_mark : Nat → Int32} {t_frontier_vertexPoint : Nat → Int32} {Q : Int32 → Int32 → Int32 → Int32 → Int32 → Int32 → (Nat → Int32) → (Nat → Int32) → (Nat → Int32) → (Nat → Int32) → (Nat → Int32) → Int32 → (Nat → Int32) → Int32 → Int32 → Int32 → Int32 → (Nat → Int32) → (Nat → Int32) → (Nat → Int32) → (Nat → Int32) → (Nat → Int32) → (Nat → Int32) → (Nat → Int32) → (Nat → Int32) → Prop} (hS : suP s t_now_items t_now_capacity t_now_limit t_now_mustSet t_now_neverSet hand t_now_weight t_now_gain t_now_joy t_now_bars t_now_needs) (hD : dkP s t_frontierFresh t_choices_sets t_choices_limit t_choices_mustSet t_choices_neverSet t_choices_weight t_choices_gain t_choices_joy t_choices_barred t_choices_needed t_frontier_size t_frontier_vertexCount t_frontier_allowedCount t_frontier_areaBelow t_frontier_pointAt t_frontier_gain t_frontier_joy t_frontier_choice t_frontier_times t_frontier_light t_frontier_mark t_frontier_vertexPoint) (hQ : DQ s (Q (iI (gb (gpv s) (PN (HH s) - 1))))) : wp_X10_gap t_frontierFresh t_now_items t_now_capacity t_now_limit t_now_mustSet t_now_neverSet t_choices_sets t_choices_limit t_choices_mustSet t_choices_neverSet t_choices_weight t_now_weight t_choices_gain t_now_gain t_choices_joy t_now_joy t_choices_barred t_now_bars t_choices_needed t_now_needs t_stairs_allowedCount t_stairs_joyAt t_frontier_size t_frontier_vertexCount t_frontier_allowedCount t_frontier_areaBelow t_frontier_pointAt t_frontier_gain t_frontier_joy t_frontier_choice t_frontier_times t_frontier_light t_frontier_mark t_frontier_vertexPoint Q := by
  unfold wp_X10_gap
  refine sp_refresh hW hS hD fun sets lim must nev cw cg cj cb cn sac sja size vc ac area pa g j ch ti li mk vp hP hF => ⟨PN (HH s) - 1 + 1, ?_⟩
  have := sl_gapC hW (t_now_items := t_now_items) (t_now_capacity := t_now_capacity) (t_now_limit := t_now_limit) (t_now_mustSet := t_now_mustSet) (t_now_neverSet := t_now_neverSet) (t_now_weight := t_now_weight) (t_now_gain := t_now_gain) (t_now_joy := t_now_joy) (t_now_bars := t_now_bars) (t_now_needs := t_now_needs) hF (hQ 1 sets lim must nev cw cg cj cb cn sac sja size vc ac area pa g j ch ti li mk vp (dkP_1 hP hF)) (PN (HH s) - 1) 0 (Nat.zero_add _)
  rw [iI_m1, iI_lit 0]
  exact this
theorem sp_gapBehind {s : Nat → Nat} (hW : WF s) {pg pj : Nat → Int32} (hG : ptG (HH s) pg pj) {k : Nat} (hk : k + 1 < PN (HH s)) {Q : Int32 → Prop} (hQ : Q (iI (gpv s k))) : wp_X11_gapBehind (iI (k : Nat)) pg pj Q := by
  have hN := PN_le (HH s)
  unfold wp_X11_gapBehind
  have ex : iI (k : Nat) + (1 : Int32) = iI ((k + 1 : Nat) : Int) := iI_succ k
  rw [ex, iI_clN (by omega), iI_clN (by omega), hG.1 (k + 1) (by omega), hG.1 k (by omega), hG.2 (k + 1) (by omega), hG.2 k (by omega), iI_sub, iI_sub, iI_mul]
  exact ⟨in_lit (by omega) (by omega), in_lit (by omega) (by omega), in_lit (by omega) (by omega), in_lit (by omega) (by omega), hQ⟩
theorem sl_gapR {s : Nat → Nat} (hW : WF s) {t_row : Nat → Int32} {t_thrown : Int32} {t_allowedMany : Int32} {t_pointMany : Int32} {t_joyAt : Nat → Int32} {t_pointAt : Nat → Int32} {t_pointGain : Nat → Int32} {t_pointJoy : Nat → Int32} {t_pointTimes : Nat → Int32} {Q : Int32 → Int32 → Int32 → Int32 → (Nat → Int32) → (Nat → Int32) → (Nat → Int32) → (Nat → Int32) → (Nat → Int32) → Prop} (hpm : t_pointMany = iI (PN (HH s) : Nat)) (hG : ptG (HH s) t_pointGain t_pointJoy) (hQ : Q (iI (gb (gpv s) (PN (HH s) - 1))) t_thrown t_allowedMany t_pointMany t_joyAt t_pointAt t_pointGain t_pointJoy t_pointTimes) :
    ∀ (d k : Nat), k + d = PN (HH s) - 1 → wp_X11_gap_L13 t_row t_thrown t_allowedMany t_pointMany t_joyAt t_pointAt t_pointGain t_pointJoy t_pointTimes Q (d + 1) (iI (gb (gpv s) k)) (iI (k : Nat)) := by
  have hN := PN_le (HH s)
  intro d
  induction d with
  | zero =>
    intro k hk
    unfold wp_X11_gap_L13
    obtain rfl : k = PN (HH s) - 1 := by omega
    have e0 : t_pointMany ≤ iI ((PN (HH s) - 1 : Nat) : Int) + 1 := by rw [hpm, iI_succ, iI_le (by omega) (by omega) (by omega) (by omega)]; omega
    exact ⟨fun _ => hQ, fun z => absurd e0 z⟩
  | succ d ih =>
    intro k hk
    have nx := ih (k + 1) (by omega)
    have hv := gpv_rng hW (k := k) (by omega)
    unfold wp_X11_gap_L13
    have e0 : t_pointMany ≤ iI ((k + 1 : Nat) : Int) ↔ (PN (HH s) : Int) ≤ ((k + 1 : Nat) : Int) := by rw [hpm, iI_le (by omega) (by omega) (by omega) (by omega)]
    have ex : iI (k : Nat) + (1 : Int32) = iI ((k + 1 : Nat) : Int) := iI_succ k
    rw [ex, e0]
    refine ⟨fun z => absurd z (by omega), fun _ => ?_⟩
    rcases gb_rng (v := gpv s) (n := k) with e | ⟨m, hm, e⟩
    · rw [gb_first e] at nx
      rw [e]
      exact ⟨fun _ => nx, fun z => absurd iI_m1.symm z⟩
    · have hv2 := gpv_rng hW (k := m) (by omega)
      rw [e]
      refine ⟨fun z => absurd z (by rw [iI_m1, iI_eq (by omega) (by omega) (by omega) (by omega)]; omega), fun _ => ?_⟩
      refine sp_gapBehind hW hG (by omega) (sp_gapBehind hW hG (by omega) ?_)
      rw [iI_le (by omega) (by omega) (by omega) (by omega)]
      refine ⟨fun c => ?_, fun c => ?_⟩
      · rw [gb_keep2 e c] at nx; exact nx
      · rw [gb_take2 e c] at nx; exact nx
theorem sr_gap {s : Nat → Nat} (hW : WF s) {t_thrown : Int32} {t_allowedMany : Int32} {t_pointMany : Int32} {t_joyAt : Nat → Int32} {t_row : Nat → Int32} {t_pointAt : Nat → Int32} {t_pointGain : Nat → Int32} {t_pointJoy : Nat → Int32} {t_pointTimes : Nat → Int32} {Q : Int32 → Int32 → Int32 → Int32 → (Nat → Int32) → (Nat → Int32) → (Nat → Int32) → (Nat → Int32) → (Nat → Int32) → Prop} (hN : neP s t_row) (hQ : ∀ am pm ja pa g j ti, Q (iI (gb (gpv s) (PN (HH s) - 1))) 0 am pm ja pa g j ti) : wp_X11_gap t_thrown t_allowedMany t_pointMany t_joyAt t_row t_pointAt t_pointGain t_pointJoy t_pointTimes Q := by
  unfold wp_X11_gap
  refine sp_layP hW hN fun am pm ja pa g j ti hM hT => ⟨PN (HH s) - 1 + 1, ?_⟩
  have := sl_gapR hW (t_row := t_row) (t_thrown := 0) (t_allowedMany := am) (t_joyAt := ja) (t_pointAt := pa) (t_pointTimes := ti) hM.2.1 hM.2.2.2.2 (hQ _ _ _ _ _ _ _) (PN (HH s) - 1) 0 (Nat.zero_add _)
  rw [iI_m1, iI_lit 0]
  exact this
