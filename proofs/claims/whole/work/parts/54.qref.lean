/-! THE REFERENCE'S ANSWERS, first part -/
theorem sp_in0 {p : Int32} {c : Int64} {k : Int} (hc : c.toInt = k) {Q : Int32 → Prop} (hQ : Q (if 0 ≤ p.toInt ∧ p.toInt ≤ k then 1 else 0)) : wp_X11_in p.toInt64 0 c Q := by
  refine sp_in ?_
  rw [show (0 : Int64).toInt = 0 from by decide, hc, Int32.toInt_toInt64]
  exact hQ
/-- a question's place among N, as both sides ask it -/
theorem sp_inN {p c : Int32} {N : Nat} (hN : N ≤ 100000) (hc : c = iI (N : Nat)) {Q : Int32 → Prop} (hQ : Q (if 0 ≤ p.toInt ∧ p.toInt < (N : Int) then 1 else 0)) : wp_X11_in p.toInt64 0 ((c - 1).toInt64) Q := by
  refine sp_in0 (k := (N : Int) - 1) ?_ ?_
  · rw [Int32.toInt_toInt64, hc, iI_lit 1, iI_sub, iI_toInt (by omega) (by omega)]
    rfl
  · have e : (0 ≤ p.toInt ∧ p.toInt ≤ (N : Int) - 1) = (0 ≤ p.toInt ∧ p.toInt < (N : Int)) := propext (by omega)
    by_cases c : 0 ≤ p.toInt ∧ p.toInt < (N : Int)
    · rw [if_pos c] at hQ
      rw [if_pos (by omega)]
      exact hQ
    · rw [if_neg c] at hQ
      rw [if_neg (by omega)]
      exact hQ
theorem sp_isPoint {p pm : Int32} {N : Nat} (hN : N ≤ 100000) (hc : pm = iI (N : Nat)) {Q : Int32 → Prop} (hQ : Q (if 0 ≤ p.toInt ∧ p.toInt < (N : Int) then 1 else 0)) : wp_X11_isPoint p pm Q := by
  unfold wp_X11_isPoint
  exact sp_inN hN hc ⟨nz_if, hQ⟩
theorem sr_allowed {s : Nat → Nat} (hW : WF s) {t_thrown : Int32} {t_allowedMany : Int32} {t_joyAt : Nat → Int32} {t_row : Nat → Int32} {Q : Int32 → Int32 → Int32 → (Nat → Int32) → Prop} (hN : neP s t_row) (hQ : ∀ am ja, Q (iI (fb_ct (okS s (s 1) 0) (2 ^ s 0) : Nat)) 0 am ja) : wp_X11_allowed t_thrown t_allowedMany t_joyAt t_row Q := by
  unfold wp_X11_allowed
  exact sp_layJoys hW hN fun f hf => hQ _ _
theorem sr_points {s : Nat → Nat} (hW : WF s) {t_thrown : Int32} {t_allowedMany : Int32} {t_pointMany : Int32} {t_joyAt : Nat → Int32} {t_row : Nat → Int32} {t_pointAt : Nat → Int32} {t_pointGain : Nat → Int32} {t_pointJoy : Nat → Int32} {t_pointTimes : Nat → Int32} {Q : Int32 → Int32 → Int32 → Int32 → (Nat → Int32) → (Nat → Int32) → (Nat → Int32) → (Nat → Int32) → (Nat → Int32) → Prop} (hN : neP s t_row) (hQ : ∀ am pm ja pa g j ti, Q (iI (PN (HH s) : Nat)) 0 am pm ja pa g j ti) : wp_X11_points t_thrown t_allowedMany t_pointMany t_joyAt t_row t_pointAt t_pointGain t_pointJoy t_pointTimes Q := by
  unfold wp_X11_points
  refine sp_layP hW hN fun am pm ja pa g j ti hM hT => ?_
  have := hQ am pm ja pa g j ti
  rw [← hM.2.1] at this
  exact this
theorem sr_area {s : Nat → Nat} (hW : WF s) {t_thrown : Int32} {t_allowedMany : Int32} {t_pointMany : Int32} {t_joyAt : Nat → Int32} {t_row : Nat → Int32} {t_pointAt : Nat → Int32} {t_pointGain : Nat → Int32} {t_pointJoy : Nat → Int32} {t_pointTimes : Nat → Int32} {Q : Int32 → Int32 → Int32 → Int32 → (Nat → Int32) → (Nat → Int32) → (Nat → Int32) → (Nat → Int32) → (Nat → Int32) → Prop} (hN : neP s t_row) (hQ : ∀ am pm ja pa g j ti, Q (iI (AR (HH s))) 0 am pm ja pa g j ti) : wp_X11_area t_thrown t_allowedMany t_pointMany t_joyAt t_row t_pointAt t_pointGain t_pointJoy t_pointTimes Q := by
  unfold wp_X11_area
  exact sp_layP hW hN fun am pm ja pa g j ti hM hT => sp_areaNow hM.2.1 hM.2.2.2.2 (hQ am pm ja pa g j ti)
theorem sr_vertices {s : Nat → Nat} (hW : WF s) {t_thrown : Int32} {t_allowedMany : Int32} {t_pointMany : Int32} {t_cornerMany : Int32} {t_joyAt : Nat → Int32} {t_row : Nat → Int32} {t_pointAt : Nat → Int32} {t_pointGain : Nat → Int32} {t_pointJoy : Nat → Int32} {t_pointTimes : Nat → Int32} {t_pointSet : Nat → Int32} {t_pointLight : Nat → Int32} {t_corner : Nat → Int32} {Q : Int32 → Int32 → Int32 → Int32 → Int32 → (Nat → Int32) → (Nat → Int32) → (Nat → Int32) → (Nat → Int32) → (Nat → Int32) → (Nat → Int32) → (Nat → Int32) → (Nat → Int32) → Prop} (hN : neP s t_row) (hQ : ∀ am pm cm ja pa g j ti ch li co, Q (iI (VC (HH s) : Nat)) 0 am pm cm ja pa g j ti ch li co) : wp_X11_vertices t_thrown t_allowedMany t_pointMany t_cornerMany t_joyAt t_row t_pointAt t_pointGain t_pointJoy t_pointTimes t_pointSet t_pointLight t_corner Q := by
  unfold wp_X11_vertices
  refine sp_layCornersToo hW hN fun am pm cm ja pa g j ti ch li co hM => ?_
  have := hQ am pm cm ja pa g j ti ch li co
  rw [← hM.2.2.1] at this
  exact this
theorem sl_supported {h : Nat → Int} (hs : stP h) {t_row : Nat → Int32} {t_thrown : Int32} {t_allowedMany : Int32} {t_pointMany : Int32} {t_cornerMany : Int32} {t_joyAt : Nat → Int32} {t_pointAt : Nat → Int32} {t_pointGain : Nat → Int32} {t_pointJoy : Nat → Int32} {t_pointTimes : Nat → Int32} {t_pointSet : Nat → Int32} {t_pointLight : Nat → Int32} {t_corner : Nat → Int32} {Q : Int32 → Int32 → Int32 → Int32 → Int32 → (Nat → Int32) → (Nat → Int32) → (Nat → Int32) → (Nat → Int32) → (Nat → Int32) → (Nat → Int32) → (Nat → Int32) → (Nat → Int32) → Prop} (hG : ptG h t_pointGain t_pointJoy) (hV : vxP h t_cornerMany t_corner) (hpm : t_pointMany = iI (PN h : Nat)) (hQ : Q (iI (sbc h 0 (PN h) : Nat)) t_thrown t_allowedMany t_pointMany t_cornerMany t_joyAt t_pointAt t_pointGain t_pointJoy t_pointTimes t_pointSet t_pointLight t_corner) :
    ∀ (d n : Nat), n + d = PN h → wp_X11_supported_L13 t_row t_thrown t_allowedMany t_pointMany t_cornerMany t_joyAt t_pointAt t_pointGain t_pointJoy t_pointTimes t_pointSet t_pointLight t_corner Q (d + 1) (iI (sbc h 0 n : Nat)) (iI (n : Nat)) := by
  have hN := PN_le h
  intro d
  induction d with
  | zero =>
    intro n hn
    unfold wp_X11_supported_L13
    obtain rfl : n = PN h := by omega
    refine ⟨fun _ => hQ, fun z => absurd (by rw [hpm]; exact Int32.le_refl _) z⟩
  | succ d ih =>
    intro n hn
    have nx := ih (n + 1) (by omega)
    unfold wp_X11_supported_L13
    have e0 : t_pointMany ≤ iI (n : Nat) ↔ (PN h : Int) ≤ (n : Int) := by rw [hpm, iI_le (by omega) (by omega) (by omega) (by omega)]
    rw [e0]
    refine ⟨fun z => absurd z (by omega), fun _ => sp_isSupported hs hG hV (by omega) ?_⟩
    rw [iI_succ]
    simp only [sbc, Nat.zero_add] at nx
    by_cases c : MK h n ≠ 0
    · rw [if_pos c]
      rw [if_pos c] at nx
      refine ⟨fun z => absurd z (by decide), fun _ v hv => ?_⟩
      rw [iI_succ] at hv
      subst hv
      exact nx
    · rw [if_neg c]
      rw [if_neg c] at nx
      refine ⟨fun _ v hv => ?_, fun z => absurd rfl z⟩
      rw [iI_lit 0, iI_add] at hv
      subst hv
      exact nx
theorem sr_supported {s : Nat → Nat} (hW : WF s) {t_thrown : Int32} {t_allowedMany : Int32} {t_pointMany : Int32} {t_cornerMany : Int32} {t_joyAt : Nat → Int32} {t_row : Nat → Int32} {t_pointAt : Nat → Int32} {t_pointGain : Nat → Int32} {t_pointJoy : Nat → Int32} {t_pointTimes : Nat → Int32} {t_pointSet : Nat → Int32} {t_pointLight : Nat → Int32} {t_corner : Nat → Int32} {Q : Int32 → Int32 → Int32 → Int32 → Int32 → (Nat → Int32) → (Nat → Int32) → (Nat → Int32) → (Nat → Int32) → (Nat → Int32) → (Nat → Int32) → (Nat → Int32) → (Nat → Int32) → Prop} (hN : neP s t_row) (hQ : ∀ am pm cm ja pa g j ti ch li co, Q (iI (sbc (HH s) 0 (PN (HH s)) : Nat)) 0 am pm cm ja pa g j ti ch li co) : wp_X11_supported t_thrown t_allowedMany t_pointMany t_cornerMany t_joyAt t_row t_pointAt t_pointGain t_pointJoy t_pointTimes t_pointSet t_pointLight t_corner Q := by
  unfold wp_X11_supported
  refine sp_layCornersToo hW hN fun am pm cm ja pa g j ti ch li co hM => ⟨PN (HH s) + 1, ?_⟩
  have := sl_supported (HH_stP hW) (t_row := t_row) (t_thrown := 0) (t_allowedMany := am) (t_joyAt := ja) (t_pointAt := pa) (t_pointTimes := ti) (t_pointSet := ch) (t_pointLight := li) hM.1.2.2.2.2 hM.2.2 hM.1.2.1 (hQ am pm cm ja pa g j ti ch li co) (PN (HH s)) 0 (Nat.zero_add _)
  rw [iI_lit 0]
  exact this
theorem sr_best {s : Nat → Nat} (hW : WF s) {p1 : Int32} {p2 : Int32} {t_thrown : Int32} {t_allowedMany : Int32} {t_pointMany : Int32} {t_joyAt : Nat → Int32} {t_row : Nat → Int32} {t_pointAt : Nat → Int32} {t_pointGain : Nat → Int32} {t_pointJoy : Nat → Int32} {t_pointTimes : Nat → Int32} {Q : Int32 → Int32 → Int32 → Int32 → (Nat → Int32) → (Nat → Int32) → (Nat → Int32) → (Nat → Int32) → (Nat → Int32) → Prop} (hN : neP s t_row) (hQ : ∀ am pm ja pa g j ti, Q (if wgt p1 p2 then iI (gb (vl (HH s) p1.toInt p2.toInt) (PN (HH s))) else 0) (if wgt p1 p2 then 0 else 1) am pm ja pa g j ti) : wp_X11_best p1 p2 t_thrown t_allowedMany t_pointMany t_joyAt t_row t_pointAt t_pointGain t_pointJoy t_pointTimes Q := by
  unfold wp_X11_best
  refine sp_areW (sp_passes ?_)
  by_cases h : wgt p1 p2
  · rw [if_pos h]
    simp only [if_pos h] at hQ
    refine ⟨fun _ => sp_layP hW hN fun am pm ja pa g j ti hM hT => ?_, fun z => absurd z (by decide)⟩
    have := sp_bestBy (Q := fun r => Q r 0 am pm ja pa g j ti) (HH_stP hW) hM.2.2.2.2 hM.2.1 h.1 (by have := h.2.1; omega) h.2.2.1 (by have := h.2.2.2.1; omega) (hQ am pm ja pa g j ti)
    rw [← iI_of, ← iI_of] at this
    exact this
  · rw [if_neg h]
    simp only [if_neg h] at hQ
    exact ⟨fun z => absurd rfl z, fun _ => hQ _ _ _ _ _ _ _⟩
theorem sl_nearest {h : Nat → Int} (hs : stP h) {t_row : Nat → Int32} {x1 : Int32} {x2 : Int32} {t_thrown : Int32} {t_allowedMany : Int32} {t_pointMany : Int32} {t_joyAt : Nat → Int32} {t_pointAt : Nat → Int32} {t_pointGain : Nat → Int32} {t_pointJoy : Nat → Int32} {t_pointTimes : Nat → Int32} {Q : Int32 → Int32 → Int32 → Int32 → (Nat → Int32) → (Nat → Int32) → (Nat → Int32) → (Nat → Int32) → (Nat → Int32) → Prop} (h1 : 0 ≤ x1.toInt) (h2 : x1.toInt ≤ 99) (h3 : 0 ≤ x2.toInt) (h4 : x2.toInt ≤ 99) (hG : ptG h t_pointGain t_pointJoy) (hpm : t_pointMany = iI (PN h : Nat)) (hQ : Q (iI (gb (fun n => -lk h x1.toInt x2.toInt n) (PN h))) t_thrown t_allowedMany t_pointMany t_joyAt t_pointAt t_pointGain t_pointJoy t_pointTimes) :
    ∀ (d n : Nat), n + d = PN h → wp_X11_nearest_L23 t_row x1 x2 t_thrown t_allowedMany t_pointMany t_joyAt t_pointAt t_pointGain t_pointJoy t_pointTimes Q (d + 1) (iI (gb (fun n => -lk h x1.toInt x2.toInt n) n)) (iI (n : Nat)) := by
  have hN := PN_le h
  intro d
  induction d with
  | zero =>
    intro n hn
    unfold wp_X11_nearest_L23
    obtain rfl : n = PN h := by omega
    refine ⟨fun _ => hQ, fun z => absurd (by rw [hpm]; exact Int32.le_refl _) z⟩
  | succ d ih =>
    intro n hn
    have nx := ih (n + 1) (by omega)
    unfold wp_X11_nearest_L23
    have e0 : t_pointMany ≤ iI (n : Nat) ↔ (PN h : Int) ≤ (n : Int) := by rw [hpm, iI_le (by omega) (by omega) (by omega) (by omega)]
    rw [e0, iI_succ]
    refine ⟨fun z => absurd z (by omega), fun _ => ?_⟩
    have rl : ∀ m, m < PN h → -235224 ≤ lk h x1.toInt x2.toInt m ∧ lk h x1.toInt x2.toInt m ≤ 235224 := fun m hm => by
      have := lk_rng hs h1 h2 h3 h4 (n := m) hm
      unfold lk
      omega
    rcases gb_rng (v := fun n => -lk h x1.toInt x2.toInt n) (n := n) with e | ⟨k, hk, e⟩
    · rw [gb_first e] at nx
      rw [e]
      exact ⟨fun _ => nx, fun z => absurd iI_m1.symm z⟩
    · rw [e]
      refine ⟨fun z => absurd z (by rw [iI_m1, iI_eq (by omega) (by omega) (by omega) (by omega)]; omega), fun _ => ?_⟩
      have r1 := rl n (by omega)
      have r2 := rl k (by omega)
      have := sp_lackOf hs hG hpm h1 h2 h3 h4 (n := n) (by omega) (Q := fun (r42 : Int32) => wp_X11_lackOf (iI (k : Nat)) x1 x2 t_pointMany t_pointGain t_pointJoy (fun (r49 : Int32) => (r49 ≤ r42 → (wp_X11_nearest_L23 t_row x1 x2 t_thrown t_allowedMany t_pointMany t_joyAt t_pointAt t_pointGain t_pointJoy t_pointTimes Q (d + 1) (iI (k : Nat)) (iI ((n + 1 : Nat) : Int)))) ∧ (¬ r49 ≤ r42 → (wp_X11_nearest_L23 t_row x1 x2 t_thrown t_allowedMany t_pointMany t_joyAt t_pointAt t_pointGain t_pointJoy t_pointTimes Q (d + 1) (iI (n : Nat)) (iI ((n + 1 : Nat) : Int)))))) (by
        have q := sp_lackOf hs hG hpm h1 h2 h3 h4 (n := k) (by omega) (Q := fun (r49 : Int32) => (r49 ≤ iI (lk h x1.toInt x2.toInt n) → (wp_X11_nearest_L23 t_row x1 x2 t_thrown t_allowedMany t_pointMany t_joyAt t_pointAt t_pointGain t_pointJoy t_pointTimes Q (d + 1) (iI (k : Nat)) (iI ((n + 1 : Nat) : Int)))) ∧ (¬ r49 ≤ iI (lk h x1.toInt x2.toInt n) → (wp_X11_nearest_L23 t_row x1 x2 t_thrown t_allowedMany t_pointMany t_joyAt t_pointAt t_pointGain t_pointJoy t_pointTimes Q (d + 1) (iI (n : Nat)) (iI ((n + 1 : Nat) : Int))))) (by
          show (_ ≤ _ → _) ∧ (¬ _ ≤ _ → _)
          rw [iI_le (by omega) (by omega) (by omega) (by omega)]
          refine ⟨fun c => ?_, fun c => ?_⟩
          · rw [gb_keep2 e (show -lk h x1.toInt x2.toInt n ≤ -lk h x1.toInt x2.toInt k by omega)] at nx; exact nx
          · rw [gb_take2 e (show ¬ -lk h x1.toInt x2.toInt n ≤ -lk h x1.toInt x2.toInt k by omega)] at nx; exact nx)
        rw [← iI_of, ← iI_of] at q
        exact q)
      rw [← iI_of, ← iI_of] at this
      exact this
theorem sr_nearest {s : Nat → Nat} (hW : WF s) {p1 : Int32} {p2 : Int32} {t_thrown : Int32} {t_allowedMany : Int32} {t_pointMany : Int32} {t_joyAt : Nat → Int32} {t_row : Nat → Int32} {t_pointAt : Nat → Int32} {t_pointGain : Nat → Int32} {t_pointJoy : Nat → Int32} {t_pointTimes : Nat → Int32} {Q : Int32 → Int32 → Int32 → Int32 → (Nat → Int32) → (Nat → Int32) → (Nat → Int32) → (Nat → Int32) → (Nat → Int32) → Prop} (hN : neP s t_row) (hQ : ∀ am pm ja pa g j ti, Q (if wgt p1 p2 then iI (gb (fun n => -lk (HH s) p1.toInt p2.toInt n) (PN (HH s))) else 0) (if wgt p1 p2 then 0 else 1) am pm ja pa g j ti) : wp_X11_nearest p1 p2 t_thrown t_allowedMany t_pointMany t_joyAt t_row t_pointAt t_pointGain t_pointJoy t_pointTimes Q := by
  unfold wp_X11_nearest
  refine sp_areW (sp_passes ?_)
  by_cases h : wgt p1 p2
  · rw [if_pos h]
    simp only [if_pos h] at hQ
    refine ⟨fun _ => sp_layP hW hN fun am pm ja pa g j ti hM hT => ⟨PN (HH s) + 1, ?_⟩, fun z => absurd z (by decide)⟩
    have := sl_nearest (HH_stP hW) (t_row := t_row) (t_thrown := 0) (t_allowedMany := am) (t_joyAt := ja) (t_pointAt := pa) (t_pointTimes := ti) h.1 h.2.1 h.2.2.1 h.2.2.2.1 hM.2.2.2.2 hM.2.1 (hQ am pm ja pa g j ti) (PN (HH s)) 0 (Nat.zero_add _)
    rw [iI_m1, iI_lit 0]
    exact this
  · rw [if_neg h]
    simp only [if_neg h] at hQ
    exact ⟨fun z => absurd rfl z, fun _ => hQ _ _ _ _ _ _ _⟩
theorem sr_vertex {s : Nat → Nat} (hW : WF s) {p1 : Int32} {t_thrown : Int32} {t_allowedMany : Int32} {t_pointMany : Int32} {t_cornerMany : Int32} {t_joyAt : Nat → Int32} {t_row : Nat → Int32} {t_pointAt : Nat → Int32} {t_pointGain : Nat → Int32} {t_pointJoy : Nat → Int32} {t_pointTimes : Nat → Int32} {t_pointSet : Nat → Int32} {t_pointLight : Nat → Int32} {t_corner : Nat → Int32} {Q : Int32 → Int32 → Int32 → Int32 → Int32 → (Nat → Int32) → (Nat → Int32) → (Nat → Int32) → (Nat → Int32) → (Nat → Int32) → (Nat → Int32) → (Nat → Int32) → (Nat → Int32) → Prop} (hN : neP s t_row) (hQ : ∀ am pm cm ja pa g j ti ch li co, Q (if 0 ≤ p1.toInt ∧ p1.toInt < (VC (HH s) : Int) then iI (VP (HH s) p1.toInt.toNat : Nat) else 0) (if 0 ≤ p1.toInt ∧ p1.toInt < (VC (HH s) : Int) then 0 else 1) am pm cm ja pa g j ti ch li co) : wp_X11_vertex p1 t_thrown t_allowedMany t_pointMany t_cornerMany t_joyAt t_row t_pointAt t_pointGain t_pointJoy t_pointTimes t_pointSet t_pointLight t_corner Q := by
  have hC := VC_le (HH s)
  have hN2 := PN_le (HH s)
  unfold wp_X11_vertex
  refine sp_layCornersToo hW hN fun am pm cm ja pa g j ti ch li co hM => sp_inN (by omega) hM.2.2.1 (sp_passes ?_)
  have := hQ am pm cm ja pa g j ti ch li co
  by_cases h : 0 ≤ p1.toInt ∧ p1.toInt < (VC (HH s) : Int)
  · rw [if_pos h]
    rw [if_pos h, if_pos h, ← hM.2.2.2 _ (by omega)] at this
    exact ⟨fun z => absurd z (by decide), fun _ => ⟨by rw [vp_in_iff]; omega, this⟩⟩
  · rw [if_neg h]
    rw [if_neg h, if_neg h] at this
    exact ⟨fun _ => this, fun z => absurd rfl z⟩
theorem sr_refusal {s : Nat → Nat} (hW : WF s) {p1 : Int32} {t_thrown : Int32} {t_row : Nat → Int32} {Q : Int32 → Int32 → Prop} (hN : neP s t_row) (hQ : Q (if 0 ≤ p1.toInt ∧ p1.toInt < ((2 ^ s 0 : Nat) : Int) then iI (rf s (s 1) p1.toInt.toNat : Nat) else 0) (if 0 ≤ p1.toInt ∧ p1.toInt < ((2 ^ s 0 : Nat) : Int) then 0 else 1)) : wp_X11_refusal p1 t_thrown t_row Q := by
  unfold wp_X11_refusal
  refine sp_isSet hW hN (sp_passes ?_)
  by_cases h : 0 ≤ p1.toInt ∧ p1.toInt < ((2 ^ s 0 : Nat) : Int)
  · rw [if_pos h]
    rw [if_pos h, if_pos h] at hQ
    refine ⟨fun z => absurd z (by decide), fun _ => ?_⟩
    have := sp_refusalOf (Q := fun r => Q r 0) hW hN (set := p1.toInt.toNat) (by omega) hQ
    rw [show ((p1.toInt.toNat : Nat) : Int) = p1.toInt by omega, ← iI_of] at this
    exact this
  · rw [if_neg h]
    rw [if_neg h, if_neg h] at hQ
    exact ⟨fun _ => hQ, fun z => absurd rfl z⟩
