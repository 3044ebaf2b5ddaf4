/-! MORE WALKS: joyFor, gainFor, fullest, gap, core, unused -/
def jfp (s : Nat → Nat) (p : Int32) (n : Nat) : Bool := decide (p.toInt ≤ PG (HH s) n)
def gfp (s : Nat → Nat) (p : Int32) (n : Nat) : Bool := decide (p.toInt ≤ PJ (HH s) n)
def jfv (s : Nat → Nat) (r : Int) : Int := if r = -1 then -1 else PJ (HH s) r.toNat
def gfv (s : Nat → Nat) (r : Int) : Int := if r = -1 then -1 else (PG (HH s) r.toNat : Int)
theorem jfv_n (s : Nat → Nat) (n : Nat) : jfv s (n : Int) = PJ (HH s) n := by
  unfold jfv
  rw [if_neg (by omega), Int.toNat_natCast]
theorem gfv_n (s : Nat → Nat) (n : Nat) : gfv s (n : Int) = (PG (HH s) n : Int) := by
  unfold gfv
  rw [if_neg (by omega), Int.toNat_natCast]
theorem sl_joyForC {s : Nat → Nat} (hW : WF s) {t_now_items : Int32} {t_now_capacity : Int32} {t_now_limit : Int32} {t_now_mustSet : Int32} {t_now_neverSet : Int32} {t_now_weight : Nat → Int32} {t_now_gain : Nat → Int32} {t_now_joy : Nat → Int32} {t_now_bars : Nat → Int32} {t_now_needs : Nat → Int32} {x1 : Int32} {t_frontierFresh : Int32} {t_choices_sets : Int32} {t_choices_limit : Int32} {t_choices_mustSet : Int32} {t_choices_neverSet : Int32} {t_choices_weight : Nat → Int32} {t_choices_gain : Nat → Int32} {t_choices_joy : Nat → Int32} {t_choices_barred : Nat → Int32} {t_choices_needed : Nat → Int32} {t_stairs_allowedCount : Int32} {t_stairs_joyAt : Nat → Int32} {t_frontier_size : Int32} {t_frontier_vertexCount : Int32} {t_frontier_allowedCount : Int32} {t_frontier_areaBelow : Int32} {t_frontier_pointAt : Nat → Int32} {t_frontier_gain : Nat → Int32} {t_frontier_joy : Nat → Int32} {t_frontier_choice : Nat → Int32} {t_frontier_times : Nat → Int32} {t_frontier_light : Nat → Int32} {t_frontier_mark : Nat → Int32} {t_frontier_vertexPoint : Nat → Int32} {Q : Int32 → Int32 → Int32 → Int32 → Int32 → Int32 → (Nat → Int32) → (Nat → Int32) → (Nat → Int32) → (Nat → Int32) → (Nat → Int32) → Int32 → (Nat → Int32) → Int32 → Int32 → Int32 → Int32 → (Nat → Int32) → (Nat → Int32) → (Nat → Int32) → (Nat → Int32) → (Nat → Int32) → (Nat → Int32) → (Nat → Int32) → (Nat → Int32) → Prop} (hF : frP s t_frontier_size t_frontier_vertexCount t_frontier_allowedCount t_frontier_areaBelow t_frontier_pointAt t_frontier_gain t_frontier_joy t_frontier_choice t_frontier_times t_frontier_light t_frontier_mark t_frontier_vertexPoint) :
    ∀ (d n : Nat), n + d = PN (HH s) → Q (iI (jfv s (ff (jfp s x1) d n))) t_frontierFresh t_choices_sets t_choices_limit t_choices_mustSet t_choices_neverSet t_choices_weight t_choices_gain t_choices_joy t_choices_barred t_choices_needed t_stairs_allowedCount t_stairs_joyAt t_frontier_size t_frontier_vertexCount t_frontier_allowedCount t_frontier_areaBelow t_frontier_pointAt t_frontier_gain t_frontier_joy t_frontier_choice t_frontier_times t_frontier_light t_frontier_mark t_frontier_vertexPoint → wp_X10_joyFor_L6 t_now_items t_now_capacity t_now_limit t_now_mustSet t_now_neverSet t_now_weight t_now_gain t_now_joy t_now_bars t_now_needs x1 t_frontierFresh t_choices_sets t_choices_limit t_choices_mustSet t_choices_neverSet t_choices_weight t_choices_gain t_choices_joy t_choices_barred t_choices_needed t_stairs_allowedCount t_stairs_joyAt t_frontier_size t_frontier_vertexCount t_frontier_allowedCount t_frontier_areaBelow t_frontier_pointAt t_frontier_gain t_frontier_joy t_frontier_choice t_frontier_times t_frontier_light t_frontier_mark t_frontier_vertexPoint Q (d + 1) (iI (n : Nat)) := by
  have hN := PN_le (HH s)
  intro d
  induction d with
  | zero =>
    intro n hn hQ
    unfold wp_X10_joyFor_L6
    obtain rfl : n = PN (HH s) := by omega
    refine ⟨fun _ => ?_, fun z => absurd (by rw [hF.1]; exact Int32.le_refl _) z⟩
    rw [iI_m1]
    exact hQ
  | succ d ih =>
    intro n hn hQ
    unfold wp_X10_joyFor_L6
    have hg := PG_rng (h := HH s) (n := n) (by omega)
    have hi : vp_in (iI (n : Nat)) 1189 := in_lit (by omega) (by omega)
    have e0 : t_frontier_size ≤ iI (n : Nat) ↔ (PN (HH s) : Int) ≤ (n : Int) := by rw [hF.1, iI_le (by omega) (by omega) (by omega) (by omega)]
    rw [e0, iI_clN (by omega), hF.2.2.2.2.1.1 n (by omega), hF.2.2.2.2.1.2 n (by omega), i_lt, iI_toInt (by omega) (by omega), iI_succ]
    simp only [ff] at hQ
    refine ⟨fun z => absurd z (by omega), fun _ => ⟨hi, fun c => ?_, fun c => ⟨hi, ?_⟩⟩⟩
    · rw [if_neg (by simp only [jfp, decide_eq_true_eq]; omega)] at hQ
      exact ih (n + 1) (by omega) hQ
    · rw [if_pos (by simp only [jfp, decide_eq_true_eq]; omega), jfv_n] at hQ
      exact hQ
theorem sq_joyFor {s : Nat → Nat} (hW : WF s) {hand : Int32} {p1 : Int32} {t_frontierFresh : Int32} {t_now_items : Int32} {t_now_capacity : Int32} {t_now_limit : Int32} {t_now_mustSet : Int32} {t_now_neverSet : Int32} {t_choices_sets : Int32} {t_choices_limit : Int32} {t_choices_mustSet : Int32} {t_choices_neverSet : Int32} {t_choices_weight : Nat → Int32} {t_now_weight : Nat → Int32} {t_choices_gain : Nat → Int32} {t_now_gain : Nat → Int32} {t_choices_joy : Nat → Int32} {t_now_joy : Nat → Int32} {t_choices_barred : Nat → Int32} {t_now_bars : Nat → Int32} {t_choices_needed : Nat → Int32} {t_now_needs : Nat → Int32} {t_stairs_allowedCount : Int32} {t_stairs_joyAt : Nat → Int32} {t_frontier_size : Int32} {t_frontier_vertexCount : Int32} {t_frontier_allowedCount : Int32} {t_frontier_areaBelow : Int32} {t_frontier_pointAt : Nat → Int32} {t_frontier_gain : Nat → Int32} {t_frontier_joy : Nat → Int32} {t_frontier_choice : Nat → Int32} {t_frontier_times : Nat → Int32} {t_frontier_light : Nat → Int32} {t_frontier_mark : Nat → Int32} {t_frontier_vertexPoint : Nat → Int32} {Q : Int32 → Int32 → Int32 → Int32 → Int32 → Int32 → (Nat → Int32) → (Nat → Int32) → (Nat → Int32) → (Nat → Int32) → (Nat → Int32) → Int32 → (Nat → Int32) → Int32 → Int32 → Int32 → Int32 → (Nat → Int32) → (Nat → Int32) → (Nat → Int32) → (Nat → Int32) → (Nat → Int32) → (Nat → Int32) → (Nat → Int32) → (Nat → Int32) → Prop} (hS : suP s t_now_items t_now_capacity t_now_limit t_now_mustSet t_now_neverSet hand t_now_weight t_now_gain t_now_joy t_now_bars t_now_needs) (hD : dkP s t_frontierFresh t_choices_sets t_choices_limit t_choices_mustSet t_choices_neverSet t_choices_weight t_choices_gain t_choices_joy t_choices_barred t_choices_needed t_frontier_size t_frontier_vertexCount t_frontier_allowedCount t_frontier_areaBelow t_frontier_pointAt t_frontier_gain t_frontier_joy t_frontier_choice t_frontier_times t_frontier_light t_frontier_mark t_frontier_vertexPoint) (hQ : DQ s (Q (iI (jfv s (ff (jfp s p1) (PN (HH s)) 0))))) : wp_X10_joyFor p1 t_frontierFresh t_now_items t_now_capacity t_now_limit t_now_mustSet t_now_neverSet t_choices_sets t_choices_limit t_choices_mustSet t_choices_neverSet t_choices_weight t_now_weight t_choices_gain t_now_gain t_choices_joy t_now_joy t_choices_barred t_now_bars t_choices_needed t_now_needs t_stairs_allowedCount t_stairs_joyAt t_frontier_size t_frontier_vertexCount t_frontier_allowedCount t_frontier_areaBelow t_frontier_pointAt t_frontier_gain t_frontier_joy t_frontier_choice t_frontier_times t_frontier_light t_frontier_mark t_frontier_vertexPoint Q := by
  unfold wp_X10_joyFor
  refine sp_refresh hW hS hD fun sets lim must nev cw cg cj cb cn sac sja size vc ac area pa g j ch ti li mk vp hP hF => ⟨PN (HH s) + 1, ?_⟩
  rw [show (0 : Int32) = iI ((0 : Nat) : Int) from iI_lit 0]
  exact sl_joyForC hW hF _ 0 (by omega) (hQ 1 sets lim must nev cw cg cj cb cn sac sja size vc ac area pa g j ch ti li mk vp (dkP_1 hP hF))
theorem iI_pred (n : Nat) : iI (((n + 1 : Nat) : Int) - 1) = iI (n : Nat) := congrArg iI (by omega)
theorem iI_addm1 (z : Int) : iI z + (-1 : Int32) = iI (z - 1) := by
  rw [iI_m1, iI_add]
  exact congrArg iI (by omega)
theorem sl_gainForC {s : Nat → Nat} (hW : WF s) {t_now_items : Int32} {t_now_capacity : Int32} {t_now_limit : Int32} {t_now_mustSet : Int32} {t_now_neverSet : Int32} {t_now_weight : Nat → Int32} {t_now_gain : Nat → Int32} {t_now_joy : Nat → Int32} {t_now_bars : Nat → Int32} {t_now_needs : Nat → Int32} {x1 : Int32} {t_frontierFresh : Int32} {t_choices_sets : Int32} {t_choices_limit : Int32} {t_choices_mustSet : Int32} {t_choices_neverSet : Int32} {t_choices_weight : Nat → Int32} {t_choices_gain : Nat → Int32} {t_choices_joy : Nat → Int32} {t_choices_barred : Nat → Int32} {t_choices_needed : Nat → Int32} {t_stairs_allowedCount : Int32} {t_stairs_joyAt : Nat → Int32} {t_frontier_size : Int32} {t_frontier_vertexCount : Int32} {t_frontier_allowedCount : Int32} {t_frontier_areaBelow : Int32} {t_frontier_pointAt : Nat → Int32} {t_frontier_gain : Nat → Int32} {t_frontier_joy : Nat → Int32} {t_frontier_choice : Nat → Int32} {t_frontier_times : Nat → Int32} {t_frontier_light : Nat → Int32} {t_frontier_mark : Nat → Int32} {t_frontier_vertexPoint : Nat → Int32} {Q : Int32 → Int32 → Int32 → Int32 → Int32 → Int32 → (Nat → Int32) → (Nat → Int32) → (Nat → Int32) → (Nat → Int32) → (Nat → Int32) → Int32 → (Nat → Int32) → Int32 → Int32 → Int32 → Int32 → (Nat → Int32) → (Nat → Int32) → (Nat → Int32) → (Nat → Int32) → (Nat → Int32) → (Nat → Int32) → (Nat → Int32) → (Nat → Int32) → Prop} (hF : frP s t_frontier_size t_frontier_vertexCount t_frontier_allowedCount t_frontier_areaBelow t_frontier_pointAt t_frontier_gain t_frontier_joy t_frontier_choice t_frontier_times t_frontier_light t_frontier_mark t_frontier_vertexPoint) :
    ∀ (n : Nat), n ≤ PN (HH s) → Q (iI (gfv s (fl (gfp s x1) n))) t_frontierFresh t_choices_sets t_choices_limit t_choices_mustSet t_choices_neverSet t_choices_weight t_choices_gain t_choices_joy t_choices_barred t_choices_needed t_stairs_allowedCount t_stairs_joyAt t_frontier_size t_frontier_vertexCount t_frontier_allowedCount t_frontier_areaBelow t_frontier_pointAt t_frontier_gain t_frontier_joy t_frontier_choice t_frontier_times t_frontier_light t_frontier_mark t_frontier_vertexPoint → wp_X10_gainFor_L14 t_now_items t_now_capacity t_now_limit t_now_mustSet t_now_neverSet t_now_weight t_now_gain t_now_joy t_now_bars t_now_needs x1 t_frontierFresh t_choices_sets t_choices_limit t_choices_mustSet t_choices_neverSet t_choices_weight t_choices_gain t_choices_joy t_choices_barred t_choices_needed t_stairs_allowedCount t_stairs_joyAt t_frontier_size t_frontier_vertexCount t_frontier_allowedCount t_frontier_areaBelow t_frontier_pointAt t_frontier_gain t_frontier_joy t_frontier_choice t_frontier_times t_frontier_light t_frontier_mark t_frontier_vertexPoint Q (n + 1) (iI ((n : Int) - 1)) := by
  have hN := PN_le (HH s)
  have hs := HH_stP hW
  intro n
  induction n with
  | zero =>
    intro hn hQ
    unfold wp_X10_gainFor_L14
    rw [i_lt0, iI_toInt (by omega) (by omega)]
    refine ⟨fun _ => ?_, fun z => absurd (by omega) z⟩
    rw [iI_m1]
    exact hQ
  | succ n ih =>
    intro hn hQ
    unfold wp_X10_gainFor_L14
    have hg := PJ_rng hs (n := n) (by omega)
    have hi : vp_in (iI (n : Nat)) 1189 := in_lit (by omega) (by omega)
    rw [iI_pred, i_lt0, iI_toInt (by omega) (by omega), iI_clN (by omega), hF.2.2.2.2.1.1 n (by omega), hF.2.2.2.2.1.2 n (by omega), i_lt, iI_toInt (by omega) (by omega), iI_addm1]
    simp only [fl] at hQ
    refine ⟨fun z => absurd z (by omega), fun _ => ⟨hi, fun c => ?_, fun c => ⟨hi, ?_⟩⟩⟩
    · rw [if_neg (by simp only [gfp, decide_eq_true_eq]; omega)] at hQ
      exact ih (by omega) hQ
    · rw [if_pos (by simp only [gfp, decide_eq_true_eq]; omega), gfv_n] at hQ
      exact hQ
theorem sq_gainFor {s : Nat → Nat} (hW : WF s) {hand : Int32} {p1 : Int32} {t_frontierFresh : Int32} {t_now_items : Int32} {t_now_capacity : Int32} {t_now_limit : Int32} {t_now_mustSet : Int32} {t_now_neverSet : Int32} {t_choices_sets : Int32} {t_choices_limit : Int32} {t_choices_mustSet : Int32} {t_choices_neverSet : Int32} {t_choices_weight : Nat → Int32} {t_now_weight : Nat → Int32} {t_choices_gain : Nat → Int32} {t_now_gain : Nat → Int32} {t_choices_joy : Nat → Int32} {t_now_joy : Nat → Int32} {t_choices_barred : Nat → Int32} {t_now_bars : Nat → Int32} {t_choices_needed : Nat → Int32} {t_now_needs : Nat → Int32} {t_stairs_allowedCount : Int32} {t_stairs_joyAt : Nat → Int32} {t_frontier_size : Int32} {t_frontier_vertexCount : Int32} {t_frontier_allowedCount : Int32} {t_frontier_areaBelow : Int32} {t_frontier_pointAt : Nat → Int32} {t_frontier_gain : Nat → Int32} {t_frontier_joy : Nat → Int32} {t_frontier_choice : Nat → Int32} {t_frontier_times : Nat → Int32} {t_frontier_light : Nat → Int32} {t_frontier_mark : Nat → Int32} {t_frontier_vertexPoint : Nat → Int32} {Q : Int32 → Int32 → Int32 → Int32 → Int32 → Int32 → (Nat → Int32) → (Nat → Int32) → (Nat → Int32) → (Nat → Int32) → (Nat → Int32) → Int32 → (Nat → Int32) → Int32 → Int32 → Int32 → Int32 → (Nat → Int32) → (Nat → Int32) → (Nat → Int32) → (Nat → Int32) → (Nat → Int32) → (Nat → Int32) → (Nat → Int32) → (Nat → Int32) → Prop} (hS : suP s t_now_items t_now_capacity t_now_limit t_now_mustSet t_now_neverSet hand t_now_weight t_now_gain t_now_joy t_now_bars t_now_needs) (hD : dkP s t_frontierFresh t_choices_sets t_choices_limit t_choices_mustSet t_choices_neverSet t_choices_weight t_choices_gain t_choices_joy t_choices_barred t_choices_needed t_frontier_size t_frontier_vertexCount t_frontier_allowedCount t_frontier_areaBelow t_frontier_pointAt t_frontier_gain t_frontier_joy t_frontier_choice t_frontier_times t_frontier_light t_frontier_mark t_frontier_vertexPoint) (hQ : DQ s (Q (iI (gfv s (fl (gfp s p1) (PN (HH s))))))) : wp_X10_gainFor p1 t_frontierFresh t_now_items t_now_capacity t_now_limit t_now_mustSet t_now_neverSet t_choices_sets t_choices_limit t_choices_mustSet t_choices_neverSet t_choices_weight t_now_weight t_choices_gain t_now_gain t_choices_joy t_now_joy t_choices_barred t_now_bars t_choices_needed t_now_needs t_stairs_allowedCount t_stairs_joyAt t_frontier_size t_frontier_vertexCount t_frontier_allowedCount t_frontier_areaBelow t_frontier_pointAt t_frontier_gain t_frontier_joy t_frontier_choice t_frontier_times t_frontier_light t_frontier_mark t_frontier_vertexPoint Q := by
  unfold wp_X10_gainFor
  refine sp_refresh hW hS hD fun sets lim must nev cw cg cj cb cn sac sja size vc ac area pa g j ch ti li mk vp hP hF v hv => ⟨PN (HH s) + 1, ?_⟩
  rw [hF.1, iI_lit 1, iI_sub] at hv
  subst hv
  exact sl_gainForC hW hF _ (Nat.le_refl _) (hQ 1 sets lim must nev cw cg cj cb cn sac sja size vc ac area pa g j ch ti li mk vp (dkP_1 hP hF))
