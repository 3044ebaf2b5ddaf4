/-! WALKS OVER THE POINTS -/
/-- the first place from n on, of d, that has p, or -1 -/
def ff (p : Nat → Bool) : Nat → Nat → Int
  | 0, _ => -1
  | d + 1, n => if p n = true then (n : Int) else ff p d (n + 1)
/-- the last place below n that has p, or -1 -/
def fl (p : Nat → Bool) : Nat → Int
  | 0 => -1
  | n + 1 => if p n = true then (n : Int) else fl p n
theorem sr_sum {s : Nat → Nat} (hW : WF s) {p1 : Int32} {p2 : Int32} {t_thrown : Int32} {t_row : Nat → Int32} {Q : Int32 → Int32 → Prop} (hN : neP s t_row) (hQ : Q (if (0 ≤ p1.toInt ∧ p1.toInt < ((2 ^ s 0 : Nat) : Int)) ∧ (0 ≤ p2.toInt ∧ p2.toInt ≤ 2) then iI (sm s p2.toInt.toNat p1.toInt.toNat (s 0) : Nat) else 0) (if (0 ≤ p1.toInt ∧ p1.toInt < ((2 ^ s 0 : Nat) : Int)) ∧ (0 ≤ p2.toInt ∧ p2.toInt ≤ 2) then 0 else 1)) : wp_X11_sum p1 p2 t_thrown t_row Q := by
  have hp := wf_pow hW
  unfold wp_X11_sum
  refine sp_isSet hW hN ?_
  by_cases h : 0 ≤ p1.toInt ∧ p1.toInt < ((2 ^ s 0 : Nat) : Int)
  · rw [if_pos h]
    refine ⟨fun z => absurd z (by decide), fun _ => sp_in0 (k := 2) rfl ?_⟩
    by_cases h2 : 0 ≤ p2.toInt ∧ p2.toInt ≤ 2
    · rw [if_pos h2]
      rw [if_pos ⟨h, h2⟩, if_pos ⟨h, h2⟩] at hQ
      refine ⟨fun z => absurd z (by decide), fun _ => ?_⟩
      have := sp_sumOf (Q := fun r => Q r 0) hW hN (set := p1.toInt.toNat) (w := p2.toInt.toNat) (by omega) (by omega) hQ
      rw [show ((p1.toInt.toNat : Nat) : Int) = p1.toInt by omega, ← iI_of, show ((p2.toInt.toNat : Nat) : Int) = p2.toInt by omega, ← iI_of] at this
      have z := sp_passes (a := True) (th := t_thrown) (Q := fun (r26 : Int32) (u26_3 : Int32) => (r26 = 0 → (Q (0 : Int32) u26_3)) ∧ (¬ r26 = 0 → (wp_X11_sumOf p1 p2 t_row (fun (r35 : Int32) => Q r35 u26_3)))) (by
        rw [if_pos trivial]
        exact ⟨fun z => absurd z (by decide), fun _ => this⟩)
      rw [if_pos trivial] at z
      exact z
    · rw [if_neg h2]
      rw [if_neg (fun z => h2 z.2), if_neg (fun z => h2 z.2)] at hQ
      refine ⟨fun _ => ?_, fun z => absurd rfl z⟩
      have z := sp_passes (a := False) (th := t_thrown) (Q := fun (r26 : Int32) (u26_3 : Int32) => (r26 = 0 → (Q (0 : Int32) u26_3)) ∧ (¬ r26 = 0 → (wp_X11_sumOf p1 p2 t_row (fun (r35 : Int32) => Q r35 u26_3)))) (by
        rw [if_neg id]
        exact ⟨fun _ => hQ, fun z => absurd rfl z⟩)
      rw [if_neg id] at z
      exact z
  · rw [if_neg h]
    rw [if_neg (fun z => h z.1), if_neg (fun z => h z.1)] at hQ
    refine ⟨fun _ => ?_, fun z => absurd rfl z⟩
    have z := sp_passes (a := False) (th := t_thrown) (Q := fun (r26 : Int32) (u26_3 : Int32) => (r26 = 0 → (Q (0 : Int32) u26_3)) ∧ (¬ r26 = 0 → (wp_X11_sumOf p1 p2 t_row (fun (r35 : Int32) => Q r35 u26_3)))) (by
      rw [if_neg id]
      exact ⟨fun _ => hQ, fun z => absurd rfl z⟩)
    rw [if_neg id] at z
    exact z
theorem sq_sum {s : Nat → Nat} (hW : WF s) {hand : Int32} {p1 : Int32} {p2 : Int32} {t_frontierFresh : Int32} {t_now_items : Int32} {t_now_capacity : Int32} {t_now_limit : Int32} {t_now_mustSet : Int32} {t_now_neverSet : Int32} {t_choices_sets : Int32} {t_choices_limit : Int32} {t_choices_mustSet : Int32} {t_choices_neverSet : Int32} {t_choices_weight : Nat → Int32} {t_now_weight : Nat → Int32} {t_choices_gain : Nat → Int32} {t_now_gain : Nat → Int32} {t_choices_joy : Nat → Int32} {t_now_joy : Nat → Int32} {t_choices_barred : Nat → Int32} {t_now_bars : Nat → Int32} {t_choices_needed : Nat → Int32} {t_now_needs : Nat → Int32} {t_stairs_allowedCount : Int32} {t_stairs_joyAt : Nat → Int32} {t_frontier_size : Int32} {t_frontier_vertexCount : Int32} {t_frontier_allowedCount : Int32} {t_frontier_areaBelow : Int32} {t_frontier_pointAt : Nat → Int32} {t_frontier_gain : Nat → Int32} {t_frontier_joy : Nat → Int32} {t_frontier_choice : Nat → Int32} {t_frontier_times : Nat → Int32} {t_frontier_light : Nat → Int32} {t_frontier_mark : Nat → Int32} {t_frontier_vertexPoint : Nat → Int32} {Q : Int32 → Int32 → Int32 → Int32 → Int32 → Int32 → (Nat → Int32) → (Nat → Int32) → (Nat → Int32) → (Nat → Int32) → (Nat → Int32) → Int32 → (Nat → Int32) → Int32 → Int32 → Int32 → Int32 → (Nat → Int32) → (Nat → Int32) → (Nat → Int32) → (Nat → Int32) → (Nat → Int32) → (Nat → Int32) → (Nat → Int32) → (Nat → Int32) → Prop} {QX : String → Int32 → Int32 → Int32 → Int32 → Int32 → (Nat → Int32) → (Nat → Int32) → (Nat → Int32) → (Nat → Int32) → (Nat → Int32) → Int32 → (Nat → Int32) → Int32 → Int32 → Int32 → Int32 → (Nat → Int32) → (Nat → Int32) → (Nat → Int32) → (Nat → Int32) → (Nat → Int32) → (Nat → Int32) → (Nat → Int32) → (Nat → Int32) → Prop} (hS : suP s t_now_items t_now_capacity t_now_limit t_now_mustSet t_now_neverSet hand t_now_weight t_now_gain t_now_joy t_now_bars t_now_needs) (hD : dkP s t_frontierFresh t_choices_sets t_choices_limit t_choices_mustSet t_choices_neverSet t_choices_weight t_choices_gain t_choices_joy t_choices_barred t_choices_needed t_frontier_size t_frontier_vertexCount t_frontier_allowedCount t_frontier_areaBelow t_frontier_pointAt t_frontier_gain t_frontier_joy t_frontier_choice t_frontier_times t_frontier_light t_frontier_mark t_frontier_vertexPoint) (hQ : 0 ≤ p1.toInt ∧ p1.toInt < ((2 ^ s 0 : Nat) : Int) → 0 ≤ p2.toInt ∧ p2.toInt ≤ 2 → DQ s (Q (iI (sm s p2.toInt.toNat p1.toInt.toNat (s 0) : Nat)))) (hX : ¬ ((0 ≤ p1.toInt ∧ p1.toInt < ((2 ^ s 0 : Nat) : Int)) ∧ (0 ≤ p2.toInt ∧ p2.toInt ≤ 2)) → DQ s (QX "java/lang/IllegalArgumentException")) : wp_X10_sum p1 p2 t_frontierFresh t_now_items t_now_capacity t_now_limit t_now_mustSet t_now_neverSet t_choices_sets t_choices_limit t_choices_mustSet t_choices_neverSet t_choices_weight t_now_weight t_choices_gain t_now_gain t_choices_joy t_now_joy t_choices_barred t_now_bars t_choices_needed t_now_needs t_stairs_allowedCount t_stairs_joyAt t_frontier_size t_frontier_vertexCount t_frontier_allowedCount t_frontier_areaBelow t_frontier_pointAt t_frontier_gain t_frontier_joy t_frontier_choice t_frontier_times t_frontier_light t_frontier_mark t_frontier_vertexPoint Q QX := by
  have hp := wf_pow hW
  unfold wp_X10_sum
  refine sp_reqSet hW hS.1 (fun h => sp_reqWhat (k := 2) rfl (fun h2 => sp_refresh hW hS hD fun sets lim must nev cw cg cj cb cn sac sja size vc ac area pa g j ch ti li mk vp hP hF => ?_) (fun h2 => hX (fun z => h2 z.2) _ _ _ _ _ _ _ _ _ _ _ _ _ _ _ _ _ _ _ _ _ _ _ _ hD)) (fun h => hX (fun z => h z.1) _ _ _ _ _ _ _ _ _ _ _ _ _ _ _ _ _ _ _ _ _ _ _ _ hD)
  have hd := dkP_1 hP hF
  have ans := hQ h h2 1 sets lim must nev cw cg cj cb cn sac sja size vc ac area pa g j ch ti li mk vp hd
  obtain ⟨n, hn⟩ : ∃ n : Nat, p1.toInt = n := ⟨p1.toInt.toNat, by omega⟩
  obtain ⟨k, hk⟩ : ∃ k : Nat, p2.toInt = k := ⟨p2.toInt.toNat, by omega⟩
  have hcl : p1.toNatClampNeg = n := by show p1.toInt.toNat = n; omega
  have hin : vp_in p1 4096 := by rw [vp_in_iff]; omega
  obtain ⟨-, -, -, -, c1, c2, c3, -, -⟩ := hP
  rw [hcl, c1 n (by omega), c2 n (by omega), c3 n (by omega), i_eqv (p := p2) (v := 0) (k := 0) rfl, i_eqv (p := p2) (v := 1) (k := 1) rfl, hk]
  rw [hn, hk, Int.toNat_natCast, Int.toNat_natCast] at ans
  refine ⟨fun c => ⟨hin, ?_⟩, fun c => ⟨hin, ?_⟩, fun c d => ⟨hin, ?_⟩⟩
  · rw [show k = 0 by omega] at ans; exact ans
  · rw [show k = 1 by omega] at ans; exact ans
  · rw [show k = 2 by omega] at ans; exact ans
theorem sq_pointOf {s : Nat → Nat} (hW : WF s) {hand : Int32} {p1 : Int32} {t_frontierFresh : Int32} {t_now_items : Int32} {t_now_capacity : Int32} {t_now_limit : Int32} {t_now_mustSet : Int32} {t_now_neverSet : Int32} {t_choices_sets : Int32} {t_choices_limit : Int32} {t_choices_mustSet : Int32} {t_choices_neverSet : Int32} {t_choices_weight : Nat → Int32} {t_now_weight : Nat → Int32} {t_choices_gain : Nat → Int32} {t_now_gain : Nat → Int32} {t_choices_joy : Nat → Int32} {t_now_joy : Nat → Int32} {t_choices_barred : Nat → Int32} {t_now_bars : Nat → Int32} {t_choices_needed : Nat → Int32} {t_now_needs : Nat → Int32} {t_stairs_allowedCount : Int32} {t_stairs_joyAt : Nat → Int32} {t_frontier_size : Int32} {t_frontier_vertexCount : Int32} {t_frontier_allowedCount : Int32} {t_frontier_areaBelow : Int32} {t_frontier_pointAt : Nat → Int32} {t_frontier_gain : Nat → Int32} {t_frontier_joy : Nat → Int32} {t_frontier_choice : Nat → Int32} {t_frontier_times : Nat → Int32} {t_frontier_light : Nat → Int32} {t_frontier_mark : Nat → Int32} {t_frontier_vertexPoint : Nat → Int32} {Q : Int32 → Int32 → Int32 → Int32 → Int32 → Int32 → (Nat → Int32) → (Nat → Int32) → (Nat → Int32) → (Nat → Int32) → (Nat → Int32) → Int32 → (Nat → Int32) → Int32 → Int32 → Int32 → Int32 → (Nat → Int32) → (Nat → Int32) → (Nat → Int32) → (Nat → Int32) → (Nat → Int32) → (Nat → Int32) → (Nat → Int32) → (Nat → Int32) → Prop} {QX : String → Int32 → Int32 → Int32 → Int32 → Int32 → (Nat → Int32) → (Nat → Int32) → (Nat → Int32) → (Nat → Int32) → (Nat → Int32) → Int32 → (Nat → Int32) → Int32 → Int32 → Int32 → Int32 → (Nat → Int32) → (Nat → Int32) → (Nat → Int32) → (Nat → Int32) → (Nat → Int32) → (Nat → Int32) → (Nat → Int32) → (Nat → Int32) → Prop} (hS : suP s t_now_items t_now_capacity t_now_limit t_now_mustSet t_now_neverSet hand t_now_weight t_now_gain t_now_joy t_now_bars t_now_needs) (hD : dkP s t_frontierFresh t_choices_sets t_choices_limit t_choices_mustSet t_choices_neverSet t_choices_weight t_choices_gain t_choices_joy t_choices_barred t_choices_needed t_frontier_size t_frontier_vertexCount t_frontier_allowedCount t_frontier_areaBelow t_frontier_pointAt t_frontier_gain t_frontier_joy t_frontier_choice t_frontier_times t_frontier_light t_frontier_mark t_frontier_vertexPoint) (hQ : 0 ≤ p1.toInt ∧ p1.toInt < ((2 ^ s 0 : Nat) : Int) → DQ s (Q (iI (PB s (HH s) p1.toInt.toNat)))) (hX : ¬ (0 ≤ p1.toInt ∧ p1.toInt < ((2 ^ s 0 : Nat) : Int)) → DQ s (QX "java/lang/IllegalArgumentException")) : wp_X10_pointOf p1 t_frontierFresh t_now_items t_now_capacity t_now_limit t_now_mustSet t_now_neverSet t_choices_sets t_choices_limit t_choices_mustSet t_choices_neverSet t_choices_weight t_now_weight t_choices_gain t_now_gain t_choices_joy t_now_joy t_choices_barred t_now_bars t_choices_needed t_now_needs t_stairs_allowedCount t_stairs_joyAt t_frontier_size t_frontier_vertexCount t_frontier_allowedCount t_frontier_areaBelow t_frontier_pointAt t_frontier_gain t_frontier_joy t_frontier_choice t_frontier_times t_frontier_light t_frontier_mark t_frontier_vertexPoint Q QX := by
  have hp := wf_pow hW
  unfold wp_X10_pointOf
  refine sp_reqSet hW hS.1 (fun h => sp_refresh hW hS hD fun sets lim must nev cw cg cj cb cn sac sja size vc ac area pa g j ch ti li mk vp hP hF => ?_) (fun h => hX h _ _ _ _ _ _ _ _ _ _ _ _ _ _ _ _ _ _ _ _ _ _ _ _ hD)
  have hd := dkP_1 hP hF
  have ans := hQ h 1 sets lim must nev cw cg cj cb cn sac sja size vc ac area pa g j ch ti li mk vp hd
  obtain ⟨n, hn⟩ : ∃ n : Nat, p1.toInt = n := ⟨p1.toInt.toNat, by omega⟩
  have hcl : p1.toNatClampNeg = n := by show p1.toInt.toNat = n; omega
  have hin : vp_in p1 4096 := by rw [vp_in_iff]; omega
  have b1 : sm s 1 n (s 0) ≤ 1188 := sm_bd hW (by omega) n
  have b2 : sm s 2 n (s 0) ≤ 1188 := sm_bd hW (by omega) n
  rw [hcl, hP.2.2.2.2.2.1 n (by omega), hP.2.2.2.2.2.2.1 n (by omega)]
  rw [hn, Int.toNat_natCast] at ans
  exact ⟨hin, hin, sp_pointWithPair (HH_stP hW) hF.2.2.2.1 hF.2.2.2.2.1.2 b1 (by omega) (by omega) ans⟩
theorem sr_pointOf {s : Nat → Nat} (hW : WF s) {p1 : Int32} {t_thrown : Int32} {t_allowedMany : Int32} {t_pointMany : Int32} {t_row : Nat → Int32} {t_joyAt : Nat → Int32} {t_pointAt : Nat → Int32} {t_pointGain : Nat → Int32} {t_pointJoy : Nat → Int32} {t_pointTimes : Nat → Int32} {Q : Int32 → Int32 → Int32 → Int32 → (Nat → Int32) → (Nat → Int32) → (Nat → Int32) → (Nat → Int32) → (Nat → Int32) → Prop} (hN : neP s t_row) (hQ : ∀ am pm ja pa g j ti, Q (if 0 ≤ p1.toInt ∧ p1.toInt < ((2 ^ s 0 : Nat) : Int) then iI (PB s (HH s) p1.toInt.toNat) else 0) (if 0 ≤ p1.toInt ∧ p1.toInt < ((2 ^ s 0 : Nat) : Int) then 0 else 1) am pm ja pa g j ti) : wp_X11_pointOf p1 t_thrown t_allowedMany t_pointMany t_row t_joyAt t_pointAt t_pointGain t_pointJoy t_pointTimes Q := by
  have hp := wf_pow hW
  unfold wp_X11_pointOf
  refine sp_isSet hW hN (sp_passes ?_)
  by_cases h : 0 ≤ p1.toInt ∧ p1.toInt < ((2 ^ s 0 : Nat) : Int)
  · rw [if_pos h]
    simp only [if_pos h] at hQ
    refine ⟨fun _ => sp_layP hW hN fun am pm ja pa g j ti hM hT => ?_, fun z => absurd z (by decide)⟩
    have := sp_pointBy (Q := fun r => Q r 0 am pm ja pa g j ti) hW hN (HH_stP hW) hM.2.2.2.1 hM.2.2.2.2.2 (q := p1.toInt.toNat) (by omega) (hQ am pm ja pa g j ti)
    rw [show ((p1.toInt.toNat : Nat) : Int) = p1.toInt by omega, ← iI_of] at this
    exact this
  · rw [if_neg h]
    simp only [if_neg h] at hQ
    exact ⟨fun z => absurd rfl z, fun _ => hQ _ _ _ _ _ _ _⟩
/-- the first point that beats a set -/
def btn (s : Nat → Nat) (q : Nat) : Int := ff (bts (HH s) (sm s 1 q (s 0)) (sm s 2 q (s 0))) (PN (HH s)) 0
theorem sl_beatenByC {s : Nat → Nat} (hW : WF s) {q : Nat} (hq : q < 2 ^ s 0) {t_now_items : Int32} {t_now_capacity : Int32} {t_now_limit : Int32} {t_now_mustSet : Int32} {t_now_neverSet : Int32} {t_now_weight : Nat → Int32} {t_now_gain : Nat → Int32} {t_now_joy : Nat → Int32} {t_now_bars : Nat → Int32} {t_now_needs : Nat → Int32} {x1 : Int32} {t_frontierFresh : Int32} {t_choices_sets : Int32} {t_choices_limit : Int32} {t_choices_mustSet : Int32} {t_choices_neverSet : Int32} {t_choices_weight : Nat → Int32} {t_choices_gain : Nat → Int32} {t_choices_joy : Nat → Int32} {t_choices_barred : Nat → Int32} {t_choices_needed : Nat → Int32} {t_stairs_allowedCount : Int32} {t_stairs_joyAt : Nat → Int32} {t_frontier_size : Int32} {t_frontier_vertexCount : Int32} {t_frontier_allowedCount : Int32} {t_frontier_areaBelow : Int32} {t_frontier_pointAt : Nat → Int32} {t_frontier_gain : Nat → Int32} {t_frontier_joy : Nat → Int32} {t_frontier_choice : Nat → Int32} {t_frontier_times : Nat → Int32} {t_frontier_light : Nat → Int32} {t_frontier_mark : Nat → Int32} {t_frontier_vertexPoint : Nat → Int32} {Q : Int32 → Int32 → Int32 → Int32 → Int32 → Int32 → (Nat → Int32) → (Nat → Int32) → (Nat → Int32) → (Nat → Int32) → (Nat → Int32) → Int32 → (Nat → Int32) → Int32 → Int32 → Int32 → Int32 → (Nat → Int32) → (Nat → Int32) → (Nat → Int32) → (Nat → Int32) → (Nat → Int32) → (Nat → Int32) → (Nat → Int32) → (Nat → Int32) → Prop} {QX : String → Int32 → Int32 → Int32 → Int32 → Int32 → (Nat → Int32) → (Nat → Int32) → (Nat → Int32) → (Nat → Int32) → (Nat → Int32) → Int32 → (Nat → Int32) → Int32 → Int32 → Int32 → Int32 → (Nat → Int32) → (Nat → Int32) → (Nat → Int32) → (Nat → Int32) → (Nat → Int32) → (Nat → Int32) → (Nat → Int32) → (Nat → Int32) → Prop} (hx : x1.toInt = (q : Int)) (hP : chP s t_choices_sets t_choices_limit t_choices_mustSet t_choices_neverSet t_choices_weight t_choices_gain t_choices_joy t_choices_barred t_choices_needed) (hF : frP s t_frontier_size t_frontier_vertexCount t_frontier_allowedCount t_frontier_areaBelow t_frontier_pointAt t_frontier_gain t_frontier_joy t_frontier_choice t_frontier_times t_frontier_light t_frontier_mark t_frontier_vertexPoint) :
    ∀ (d n : Nat), n + d = PN (HH s) → Q (iI (ff (bts (HH s) (sm s 1 q (s 0)) (sm s 2 q (s 0))) d n)) t_frontierFresh t_choices_sets t_choices_limit t_choices_mustSet t_choices_neverSet t_choices_weight t_choices_gain t_choices_joy t_choices_barred t_choices_needed t_stairs_allowedCount t_stairs_joyAt t_frontier_size t_frontier_vertexCount t_frontier_allowedCount t_frontier_areaBelow t_frontier_pointAt t_frontier_gain t_frontier_joy t_frontier_choice t_frontier_times t_frontier_light t_frontier_mark t_frontier_vertexPoint → wp_X10_beatenBy_L11 t_now_items t_now_capacity t_now_limit t_now_mustSet t_now_neverSet t_now_weight t_now_gain t_now_joy t_now_bars t_now_needs x1 t_frontierFresh t_choices_sets t_choices_limit t_choices_mustSet t_choices_neverSet t_choices_weight t_choices_gain t_choices_joy t_choices_barred t_choices_needed t_stairs_allowedCount t_stairs_joyAt t_frontier_size t_frontier_vertexCount t_frontier_allowedCount t_frontier_areaBelow t_frontier_pointAt t_frontier_gain t_frontier_joy t_frontier_choice t_frontier_times t_frontier_light t_frontier_mark t_frontier_vertexPoint Q QX (d + 1) (iI (n : Nat)) := by
  have hN := PN_le (HH s)
  have hp := wf_pow hW
  have b1 : sm s 1 q (s 0) ≤ 1188 := sm_bd hW (by omega) q
  have b2 : sm s 2 q (s 0) ≤ 1188 := sm_bd hW (by omega) q
  have hcl : x1.toNatClampNeg = q := by show x1.toInt.toNat = q; omega
  have hin : vp_in x1 4096 := by rw [vp_in_iff]; omega
  have e1 := hP.2.2.2.2.2.1 q hq
  have e2 := hP.2.2.2.2.2.2.1 q hq
  intro d
  induction d with
  | zero =>
    intro n hn hQ
    unfold wp_X10_beatenBy_L11
    obtain rfl : n = PN (HH s) := by omega
    refine ⟨fun _ => ?_, fun z => absurd (by rw [hF.1]; exact Int32.le_refl _) z⟩
    rw [iI_m1]
    exact hQ
  | succ d ih =>
    intro n hn hQ
    unfold wp_X10_beatenBy_L11
    have e0 : t_frontier_size ≤ iI (n : Nat) ↔ (PN (HH s) : Int) ≤ (n : Int) := by rw [hF.1, iI_le (by omega) (by omega) (by omega) (by omega)]
    rw [e0, hcl, e1, e2, iI_succ]
    refine ⟨fun z => absurd z (by omega), fun _ => ⟨hin, hin, sp_beats (HH_stP hW) hF.2.2.2.2.1 (by omega) (by omega) (by omega) (by omega) (by omega) ?_⟩⟩
    simp only [ff] at hQ
    by_cases c : bts (HH s) (sm s 1 q (s 0)) (sm s 2 q (s 0)) n = true
    · rw [if_pos c] at hQ
      rw [if_pos c]
      exact ⟨fun z => absurd z (by decide), fun _ => hQ⟩
    · rw [if_neg c] at hQ
      rw [if_neg c]
      exact ⟨fun _ => ih (n + 1) (by omega) hQ, fun z => absurd rfl z⟩
theorem sq_beatenBy {s : Nat → Nat} (hW : WF s) {hand : Int32} {p1 : Int32} {t_frontierFresh : Int32} {t_now_items : Int32} {t_now_capacity : Int32} {t_now_limit : Int32} {t_now_mustSet : Int32} {t_now_neverSet : Int32} {t_choices_sets : Int32} {t_choices_limit : Int32} {t_choices_mustSet : Int32} {t_choices_neverSet : Int32} {t_choices_weight : Nat → Int32} {t_now_weight : Nat → Int32} {t_choices_gain : Nat → Int32} {t_now_gain : Nat → Int32} {t_choices_joy : Nat → Int32} {t_now_joy : Nat → Int32} {t_choices_barred : Nat → Int32} {t_now_bars : Nat → Int32} {t_choices_needed : Nat → Int32} {t_now_needs : Nat → Int32} {t_stairs_allowedCount : Int32} {t_stairs_joyAt : Nat → Int32} {t_frontier_size : Int32} {t_frontier_vertexCount : Int32} {t_frontier_allowedCount : Int32} {t_frontier_areaBelow : Int32} {t_frontier_pointAt : Nat → Int32} {t_frontier_gain : Nat → Int32} {t_frontier_joy : Nat → Int32} {t_frontier_choice : Nat → Int32} {t_frontier_times : Nat → Int32} {t_frontier_light : Nat → Int32} {t_frontier_mark : Nat → Int32} {t_frontier_vertexPoint : Nat → Int32} {Q : Int32 → Int32 → Int32 → Int32 → Int32 → Int32 → (Nat → Int32) → (Nat → Int32) → (Nat → Int32) → (Nat → Int32) → (Nat → Int32) → Int32 → (Nat → Int32) → Int32 → Int32 → Int32 → Int32 → (Nat → Int32) → (Nat → Int32) → (Nat → Int32) → (Nat → Int32) → (Nat → Int32) → (Nat → Int32) → (Nat → Int32) → (Nat → Int32) → Prop} {QX : String → Int32 → Int32 → Int32 → Int32 → Int32 → (Nat → Int32) → (Nat → Int32) → (Nat → Int32) → (Nat → Int32) → (Nat → Int32) → Int32 → (Nat → Int32) → Int32 → Int32 → Int32 → Int32 → (Nat → Int32) → (Nat → Int32) → (Nat → Int32) → (Nat → Int32) → (Nat → Int32) → (Nat → Int32) → (Nat → Int32) → (Nat → Int32) → Prop} (hS : suP s t_now_items t_now_capacity t_now_limit t_now_mustSet t_now_neverSet hand t_now_weight t_now_gain t_now_joy t_now_bars t_now_needs) (hD : dkP s t_frontierFresh t_choices_sets t_choices_limit t_choices_mustSet t_choices_neverSet t_choices_weight t_choices_gain t_choices_joy t_choices_barred t_choices_needed t_frontier_size t_frontier_vertexCount t_frontier_allowedCount t_frontier_areaBelow t_frontier_pointAt t_frontier_gain t_frontier_joy t_frontier_choice t_frontier_times t_frontier_light t_frontier_mark t_frontier_vertexPoint) (hQ : 0 ≤ p1.toInt ∧ p1.toInt < ((2 ^ s 0 : Nat) : Int) → DQ s (Q (iI (btn s p1.toInt.toNat)))) (hX : ¬ (0 ≤ p1.toInt ∧ p1.toInt < ((2 ^ s 0 : Nat) : Int)) → DQ s (QX "java/lang/IllegalArgumentException")) : wp_X10_beatenBy p1 t_frontierFresh t_now_items t_now_capacity t_now_limit t_now_mustSet t_now_neverSet t_choices_sets t_choices_limit t_choices_mustSet t_choices_neverSet t_choices_weight t_now_weight t_choices_gain t_now_gain t_choices_joy t_now_joy t_choices_barred t_now_bars t_choices_needed t_now_needs t_stairs_allowedCount t_stairs_joyAt t_frontier_size t_frontier_vertexCount t_frontier_allowedCount t_frontier_areaBelow t_frontier_pointAt t_frontier_gain t_frontier_joy t_frontier_choice t_frontier_times t_frontier_light t_frontier_mark t_frontier_vertexPoint Q QX := by
  unfold wp_X10_beatenBy
  refine sp_reqSet hW hS.1 (fun h => sp_refresh hW hS hD fun sets lim must nev cw cg cj cb cn sac sja size vc ac area pa g j ch ti li mk vp hP hF => ⟨PN (HH s) + 1, ?_⟩) (fun h => hX h _ _ _ _ _ _ _ _ _ _ _ _ _ _ _ _ _ _ _ _ _ _ _ _ hD)
  rw [show (0 : Int32) = iI ((0 : Nat) : Int) from iI_lit 0]
  exact sl_beatenByC hW (q := p1.toInt.toNat) (by omega) (by omega) hP hF _ 0 (by omega) (hQ h 1 sets lim must nev cw cg cj cb cn sac sja size vc ac area pa g j ch ti li mk vp (dkP_1 hP hF))
theorem sl_beatenByR {s : Nat → Nat} (hW : WF s) {q : Nat} (hq : q < 2 ^ s 0) {t_row : Nat → Int32} {x1 : Int32} {t_thrown : Int32} {t_allowedMany : Int32} {t_pointMany : Int32} {t_joyAt : Nat → Int32} {t_pointAt : Nat → Int32} {t_pointGain : Nat → Int32} {t_pointJoy : Nat → Int32} {t_pointTimes : Nat → Int32} {Q : Int32 → Int32 → Int32 → Int32 → (Nat → Int32) → (Nat → Int32) → (Nat → Int32) → (Nat → Int32) → (Nat → Int32) → Prop} (hN : neP s t_row) (hx : x1.toInt = (q : Int)) (hpm : t_pointMany = iI (PN (HH s) : Nat)) (hG : ptG (HH s) t_pointGain t_pointJoy) :
    ∀ (d n : Nat), n + d = PN (HH s) → Q (iI (ff (bts (HH s) (sm s 1 q (s 0)) (sm s 2 q (s 0))) d n)) t_thrown t_allowedMany t_pointMany t_joyAt t_pointAt t_pointGain t_pointJoy t_pointTimes → wp_X11_beatenBy_L20 t_row x1 t_thrown t_allowedMany t_pointMany t_joyAt t_pointAt t_pointGain t_pointJoy t_pointTimes Q (d + 1) (iI (n : Nat)) := by
  have hN2 := PN_le (HH s)
  have hp := wf_pow hW
  have b1 : sm s 1 q (s 0) ≤ 1188 := sm_bd hW (by omega) q
  have b2 : sm s 2 q (s 0) ≤ 1188 := sm_bd hW (by omega) q
  have ex : x1 = iI (q : Nat) := by rw [iI_of x1, hx]
  subst ex
  intro d
  induction d with
  | zero =>
    intro n hn hQ
    unfold wp_X11_beatenBy_L20
    obtain rfl : n = PN (HH s) := by omega
    refine ⟨fun _ => ?_, fun z => absurd (by rw [hpm]; exact Int32.le_refl _) z⟩
    rw [iI_m1]
    exact hQ
  | succ d ih =>
    intro n hn hQ
    unfold wp_X11_beatenBy_L20
    have e0 : t_pointMany ≤ iI (n : Nat) ↔ (PN (HH s) : Int) ≤ (n : Int) := by rw [hpm, iI_le (by omega) (by omega) (by omega) (by omega)]
    rw [e0, iI_succ]
    refine ⟨fun z => absurd z (by omega), fun _ => ?_⟩
    refine sp_sumOf (w := 1) hW hN (by omega) (by omega) (sp_sumOf (w := 2) hW hN (by omega) (by omega) (sp_doesBeat (HH_stP hW) hG (by omega) (by omega) (by omega) (by omega) (by omega) ?_))
    simp only [ff] at hQ
    by_cases c : bts (HH s) (sm s 1 q (s 0)) (sm s 2 q (s 0)) n = true
    · rw [if_pos c] at hQ
      rw [if_pos c]
      exact ⟨fun z => absurd z (by decide), fun _ => hQ⟩
    · rw [if_neg c] at hQ
      rw [if_neg c]
      exact ⟨fun _ => ih (n + 1) (by omega) hQ, fun z => absurd rfl z⟩
theorem sr_beatenBy {s : Nat → Nat} (hW : WF s) {p1 : Int32} {t_thrown : Int32} {t_allowedMany : Int32} {t_pointMany : Int32} {t_row : Nat → Int32} {t_joyAt : Nat → Int32} {t_pointAt : Nat → Int32} {t_pointGain : Nat → Int32} {t_pointJoy : Nat → Int32} {t_pointTimes : Nat → Int32} {Q : Int32 → Int32 → Int32 → Int32 → (Nat → Int32) → (Nat → Int32) → (Nat → Int32) → (Nat → Int32) → (Nat → Int32) → Prop} (hN : neP s t_row) (hQ : ∀ am pm ja pa g j ti, Q (if 0 ≤ p1.toInt ∧ p1.toInt < ((2 ^ s 0 : Nat) : Int) then iI (btn s p1.toInt.toNat) else 0) (if 0 ≤ p1.toInt ∧ p1.toInt < ((2 ^ s 0 : Nat) : Int) then 0 else 1) am pm ja pa g j ti) : wp_X11_beatenBy p1 t_thrown t_allowedMany t_pointMany t_row t_joyAt t_pointAt t_pointGain t_pointJoy t_pointTimes Q := by
  unfold wp_X11_beatenBy
  refine sp_isSet hW hN (sp_passes ?_)
  by_cases h : 0 ≤ p1.toInt ∧ p1.toInt < ((2 ^ s 0 : Nat) : Int)
  · rw [if_pos h]
    simp only [if_pos h] at hQ
    refine ⟨fun _ => sp_layP hW hN fun am pm ja pa g j ti hM hT => ⟨PN (HH s) + 1, ?_⟩, fun z => absurd z (by decide)⟩
    rw [show (0 : Int32) = iI ((0 : Nat) : Int) from iI_lit 0]
    exact sl_beatenByR hW (q := p1.toInt.toNat) (by omega) hN (by omega) hM.2.1 hM.2.2.2.2 _ 0 (by omega) (hQ _ _ _ _ _ _ _)
  · rw [if_neg h]
    simp only [if_neg h] at hQ
    exact ⟨fun z => absurd rfl z, fun _ => hQ _ _ _ _ _ _ _⟩
/-- how many points beat a pair -/
def btc (s : Nat → Nat) (p q : Int32) : Nat → Nat := fb_ct (bts (HH s) p.toInt q.toInt)
theorem sl_beatingC {s : Nat → Nat} (hW : WF s) {t_now_items : Int32} {t_now_capacity : Int32} {t_now_limit : Int32} {t_now_mustSet : Int32} {t_now_neverSet : Int32} {t_now_weight : Nat → Int32} {t_now_gain : Nat → Int32} {t_now_joy : Nat → Int32} {t_now_bars : Nat → Int32} {t_now_needs : Nat → Int32} {x1 : Int32} {x2 : Int32} {t_frontierFresh : Int32} {t_choices_sets : Int32} {t_choices_limit : Int32} {t_choices_mustSet : Int32} {t_choices_neverSet : Int32} {t_choices_weight : Nat → Int32} {t_choices_gain : Nat → Int32} {t_choices_joy : Nat → Int32} {t_choices_barred : Nat → Int32} {t_choices_needed : Nat → Int32} {t_stairs_allowedCount : Int32} {t_stairs_joyAt : Nat → Int32} {t_frontier_size : Int32} {t_frontier_vertexCount : Int32} {t_frontier_allowedCount : Int32} {t_frontier_areaBelow : Int32} {t_frontier_pointAt : Nat → Int32} {t_frontier_gain : Nat → Int32} {t_frontier_joy : Nat → Int32} {t_frontier_choice : Nat → Int32} {t_frontier_times : Nat → Int32} {t_frontier_light : Nat → Int32} {t_frontier_mark : Nat → Int32} {t_frontier_vertexPoint : Nat → Int32} {Q : Int32 → Int32 → Int32 → Int32 → Int32 → Int32 → (Nat → Int32) → (Nat → Int32) → (Nat → Int32) → (Nat → Int32) → (Nat → Int32) → Int32 → (Nat → Int32) → Int32 → Int32 → Int32 → Int32 → (Nat → Int32) → (Nat → Int32) → (Nat → Int32) → (Nat → Int32) → (Nat → Int32) → (Nat → Int32) → (Nat → Int32) → (Nat → Int32) → Prop} (hF : frP s t_frontier_size t_frontier_vertexCount t_frontier_allowedCount t_frontier_areaBelow t_frontier_pointAt t_frontier_gain t_frontier_joy t_frontier_choice t_frontier_times t_frontier_light t_frontier_mark t_frontier_vertexPoint) (hQ : Q (iI (btc s x1 x2 (PN (HH s)) : Nat)) t_frontierFresh t_choices_sets t_choices_limit t_choices_mustSet t_choices_neverSet t_choices_weight t_choices_gain t_choices_joy t_choices_barred t_choices_needed t_stairs_allowedCount t_stairs_joyAt t_frontier_size t_frontier_vertexCount t_frontier_allowedCount t_frontier_areaBelow t_frontier_pointAt t_frontier_gain t_frontier_joy t_frontier_choice t_frontier_times t_frontier_light t_frontier_mark t_frontier_vertexPoint) :
    ∀ (d n : Nat), n + d = PN (HH s) → wp_X10_beating_L9 t_now_items t_now_capacity t_now_limit t_now_mustSet t_now_neverSet t_now_weight t_now_gain t_now_joy t_now_bars t_now_needs x1 x2 t_frontierFresh t_choices_sets t_choices_limit t_choices_mustSet t_choices_neverSet t_choices_weight t_choices_gain t_choices_joy t_choices_barred t_choices_needed t_stairs_allowedCount t_stairs_joyAt t_frontier_size t_frontier_vertexCount t_frontier_allowedCount t_frontier_areaBelow t_frontier_pointAt t_frontier_gain t_frontier_joy t_frontier_choice t_frontier_times t_frontier_light t_frontier_mark t_frontier_vertexPoint Q (d + 1) (iI (btc s x1 x2 n : Nat)) (iI (n : Nat)) := by
  have hN := PN_le (HH s)
  intro d
  induction d with
  | zero =>
    intro n hn
    unfold wp_X10_beating_L9
    obtain rfl : n = PN (HH s) := by omega
    exact ⟨fun _ => hQ, fun z => absurd (by rw [hF.1]; exact Int32.le_refl _) z⟩
  | succ d ih =>
    intro n hn
    have nx := ih (n + 1) (by omega)
    unfold wp_X10_beating_L9
    have e0 : t_frontier_size ≤ iI (n : Nat) ↔ (PN (HH s) : Int) ≤ (n : Int) := by rw [hF.1, iI_le (by omega) (by omega) (by omega) (by omega)]
    rw [e0, iI_succ]
    refine ⟨fun z => absurd z (by omega), fun _ => ?_⟩
    have := sp_beats (HH_stP hW) hF.2.2.2.2.1 (n := n) (g := x1.toInt) (j := x2.toInt) (by omega) (Int32.le_toInt x1) (Int32.toInt_lt x1) (Int32.le_toInt x2) (Int32.toInt_lt x2) (Q := fun (r29 : Int32) => (r29 = 0 → (wp_X10_beating_L9 t_now_items t_now_capacity t_now_limit t_now_mustSet t_now_neverSet t_now_weight t_now_gain t_now_joy t_now_bars t_now_needs x1 x2 t_frontierFresh t_choices_sets t_choices_limit t_choices_mustSet t_choices_neverSet t_choices_weight t_choices_gain t_choices_joy t_choices_barred t_choices_needed t_stairs_allowedCount t_stairs_joyAt t_frontier_size t_frontier_vertexCount t_frontier_allowedCount t_frontier_areaBelow t_frontier_pointAt t_frontier_gain t_frontier_joy t_frontier_choice t_frontier_times t_frontier_light t_frontier_mark t_frontier_vertexPoint Q (d + 1) (iI (btc s x1 x2 n : Nat)) (iI ((n + 1 : Nat) : Int)))) ∧ (¬ r29 = 0 → (wp_X10_beating_L9 t_now_items t_now_capacity t_now_limit t_now_mustSet t_now_neverSet t_now_weight t_now_gain t_now_joy t_now_bars t_now_needs x1 x2 t_frontierFresh t_choices_sets t_choices_limit t_choices_mustSet t_choices_neverSet t_choices_weight t_choices_gain t_choices_joy t_choices_barred t_choices_needed t_stairs_allowedCount t_stairs_joyAt t_frontier_size t_frontier_vertexCount t_frontier_allowedCount t_frontier_areaBelow t_frontier_pointAt t_frontier_gain t_frontier_joy t_frontier_choice t_frontier_times t_frontier_light t_frontier_mark t_frontier_vertexPoint Q (d + 1) (iI (btc s x1 x2 n : Nat) + 1) (iI ((n + 1 : Nat) : Int))))) (by
      by_cases c : bts (HH s) x1.toInt x2.toInt n = true
      · rw [if_pos c]
        unfold btc at nx
        rw [fa_ct_yes' c] at nx
        rw [iI_succ]
        exact ⟨fun z => absurd z (by decide), fun _ => nx⟩
      · rw [if_neg c]
        rw [Bool.not_eq_true] at c
        unfold btc at nx
        rw [fa_ct_no' c] at nx
        exact ⟨fun _ => nx, fun z => absurd rfl z⟩)
    rw [← iI_of, ← iI_of] at this
    exact this
theorem sq_beating {s : Nat → Nat} (hW : WF s) {hand : Int32} {p1 : Int32} {p2 : Int32} {t_frontierFresh : Int32} {t_now_items : Int32} {t_now_capacity : Int32} {t_now_limit : Int32} {t_now_mustSet : Int32} {t_now_neverSet : Int32} {t_choices_sets : Int32} {t_choices_limit : Int32} {t_choices_mustSet : Int32} {t_choices_neverSet : Int32} {t_choices_weight : Nat → Int32} {t_now_weight : Nat → Int32} {t_choices_gain : Nat → Int32} {t_now_gain : Nat → Int32} {t_choices_joy : Nat → Int32} {t_now_joy : Nat → Int32} {t_choices_barred : Nat → Int32} {t_now_bars : Nat → Int32} {t_choices_needed : Nat → Int32} {t_now_needs : Nat → Int32} {t_stairs_allowedCount : Int32} {t_stairs_joyAt : Nat → Int32} {t_frontier_size : Int32} {t_frontier_vertexCount : Int32} {t_frontier_allowedCount : Int32} {t_frontier_areaBelow : Int32} {t_frontier_pointAt : Nat → Int32} {t_frontier_gain : Nat → Int32} {t_frontier_joy : Nat → Int32} {t_frontier_choice : Nat → Int32} {t_frontier_times : Nat → Int32} {t_frontier_light : Nat → Int32} {t_frontier_mark : Nat → Int32} {t_frontier_vertexPoint : Nat → Int32} {Q : Int32 → Int32 → Int32 → Int32 → Int32 → Int32 → (Nat → Int32) → (Nat → Int32) → (Nat → Int32) → (Nat → Int32) → (Nat → Int32) → Int32 → (Nat → Int32) → Int32 → Int32 → Int32 → Int32 → (Nat → Int32) → (Nat → Int32) → (Nat → Int32) → (Nat → Int32) → (Nat → Int32) → (Nat → Int32) → (Nat → Int32) → (Nat → Int32) → Prop} (hS : suP s t_now_items t_now_capacity t_now_limit t_now_mustSet t_now_neverSet hand t_now_weight t_now_gain t_now_joy t_now_bars t_now_needs) (hD : dkP s t_frontierFresh t_choices_sets t_choices_limit t_choices_mustSet t_choices_neverSet t_choices_weight t_choices_gain t_choices_joy t_choices_barred t_choices_needed t_frontier_size t_frontier_vertexCount t_frontier_allowedCount t_frontier_areaBelow t_frontier_pointAt t_frontier_gain t_frontier_joy t_frontier_choice t_frontier_times t_frontier_light t_frontier_mark t_frontier_vertexPoint) (hQ : DQ s (Q (iI (btc s p1 p2 (PN (HH s)) : Nat)))) : wp_X10_beating p1 p2 t_frontierFresh t_now_items t_now_capacity t_now_limit t_now_mustSet t_now_neverSet t_choices_sets t_choices_limit t_choices_mustSet t_choices_neverSet t_choices_weight t_now_weight t_choices_gain t_now_gain t_choices_joy t_now_joy t_choices_barred t_now_bars t_choices_needed t_now_needs t_stairs_allowedCount t_stairs_joyAt t_frontier_size t_frontier_vertexCount t_frontier_allowedCount t_frontier_areaBelow t_frontier_pointAt t_frontier_gain t_frontier_joy t_frontier_choice t_frontier_times t_frontier_light t_frontier_mark t_frontier_vertexPoint Q := by
  unfold wp_X10_beating
  refine sp_refresh hW hS hD fun sets lim must nev cw cg cj cb cn sac sja size vc ac area pa g j ch ti li mk vp hP hF => ⟨PN (HH s) + 1, ?_⟩
  rw [show (0 : Int32) = iI ((0 : Nat) : Int) from iI_lit 0]
  exact sl_beatingC hW hF (hQ 1 sets lim must nev cw cg cj cb cn sac sja size vc ac area pa g j ch ti li mk vp (dkP_1 hP hF)) _ 0 (by omega)
theorem sl_beatingR {s : Nat → Nat} (hW : WF s) {t_row : Nat → Int32} {x1 : Int32} {x2 : Int32} {t_thrown : Int32} {t_allowedMany : Int32} {t_pointMany : Int32} {t_joyAt : Nat → Int32} {t_pointAt : Nat → Int32} {t_pointGain : Nat → Int32} {t_pointJoy : Nat → Int32} {t_pointTimes : Nat → Int32} {Q : Int32 → Int32 → Int32 → Int32 → (Nat → Int32) → (Nat → Int32) → (Nat → Int32) → (Nat → Int32) → (Nat → Int32) → Prop} (hpm : t_pointMany = iI (PN (HH s) : Nat)) (hG : ptG (HH s) t_pointGain t_pointJoy) (hQ : Q (iI (btc s x1 x2 (PN (HH s)) : Nat)) t_thrown t_allowedMany t_pointMany t_joyAt t_pointAt t_pointGain t_pointJoy t_pointTimes) :
    ∀ (d n : Nat), n + d = PN (HH s) → wp_X11_beating_L14 t_row x1 x2 t_thrown t_allowedMany t_pointMany t_joyAt t_pointAt t_pointGain t_pointJoy t_pointTimes Q (d + 1) (iI (btc s x1 x2 n : Nat)) (iI (n : Nat)) := by
  have hN := PN_le (HH s)
  intro d
  induction d with
  | zero =>
    intro n hn
    unfold wp_X11_beating_L14
    obtain rfl : n = PN (HH s) := by omega
    exact ⟨fun _ => hQ, fun z => absurd (by rw [hpm]; exact Int32.le_refl _) z⟩
  | succ d ih =>
    intro n hn
    have nx := ih (n + 1) (by omega)
    unfold wp_X11_beating_L14
    have e0 : t_pointMany ≤ iI (n : Nat) ↔ (PN (HH s) : Int) ≤ (n : Int) := by rw [hpm, iI_le (by omega) (by omega) (by omega) (by omega)]
    rw [e0, iI_succ]
    refine ⟨fun z => absurd z (by omega), fun _ => ?_⟩
    have := sp_doesBeat (HH_stP hW) hG (n := n) (g := x1.toInt) (j := x2.toInt) (by omega) (Int32.le_toInt x1) (Int32.toInt_lt x1) (Int32.le_toInt x2) (Int32.toInt_lt x2) (Q := fun (r29 : Int32) => (r29 = 0 → (∀ v41 : Int32, v41 = iI (btc s x1 x2 n : Nat) + (0 : Int32) → (wp_X11_beating_L14 t_row x1 x2 t_thrown t_allowedMany t_pointMany t_joyAt t_pointAt t_pointGain t_pointJoy t_pointTimes Q (d + 1) v41 (iI ((n + 1 : Nat) : Int))))) ∧ (¬ r29 = 0 → (∀ v41 : Int32, v41 = iI (btc s x1 x2 n : Nat) + (1 : Int32) → (wp_X11_beating_L14 t_row x1 x2 t_thrown t_allowedMany t_pointMany t_joyAt t_pointAt t_pointGain t_pointJoy t_pointTimes Q (d + 1) v41 (iI ((n + 1 : Nat) : Int)))))) (by
      by_cases c : bts (HH s) x1.toInt x2.toInt n = true
      · rw [if_pos c]
        unfold btc at nx
        rw [fa_ct_yes' c] at nx
        refine ⟨fun z => absurd z (by decide), fun _ v hv => ?_⟩
        rw [iI_succ] at hv
        subst hv
        exact nx
      · rw [if_neg c]
        rw [Bool.not_eq_true] at c
        unfold btc at nx
        rw [fa_ct_no' c] at nx
        refine ⟨fun _ v hv => ?_, fun z => absurd rfl z⟩
        rw [iI_lit 0, iI_add] at hv
        subst hv
        exact nx)
    rw [← iI_of, ← iI_of] at this
    exact this
theorem sr_beating {s : Nat → Nat} (hW : WF s) {p1 : Int32} {p2 : Int32} {t_thrown : Int32} {t_allowedMany : Int32} {t_pointMany : Int32} {t_joyAt : Nat → Int32} {t_row : Nat → Int32} {t_pointAt : Nat → Int32} {t_pointGain : Nat → Int32} {t_pointJoy : Nat → Int32} {t_pointTimes : Nat → Int32} {Q : Int32 → Int32 → Int32 → Int32 → (Nat → Int32) → (Nat → Int32) → (Nat → Int32) → (Nat → Int32) → (Nat → Int32) → Prop} (hN : neP s t_row) (hQ : ∀ am pm ja pa g j ti, Q (iI (btc s p1 p2 (PN (HH s)) : Nat)) 0 am pm ja pa g j ti) : wp_X11_beating p1 p2 t_thrown t_allowedMany t_pointMany t_joyAt t_row t_pointAt t_pointGain t_pointJoy t_pointTimes Q := by
  unfold wp_X11_beating
  refine sp_layP hW hN fun am pm ja pa g j ti hM hT => ⟨PN (HH s) + 1, ?_⟩
  have := sl_beatingR hW (t_row := t_row) (t_thrown := 0) (t_allowedMany := am) (t_joyAt := ja) (t_pointAt := pa) (t_pointTimes := ti) hM.2.1 hM.2.2.2.2 (hQ _ _ _ _ _ _ _) (PN (HH s)) 0 (Nat.zero_add _)
  rw [show btc s p1 p2 0 = 0 from rfl, ← iI_lit 0] at this
  exact this
