theorem sp_bitCount {set : Nat} (h : set < 4096) {Q : Int32 → Prop} (hQ : Q (iI (pcn set 12 : Nat))) : wp_J6_bitCount_0f7a4 (iI set) Q := by
  unfold wp_J6_bitCount_0f7a4
  intro v9 h9 v23 h23 v33 h33 v40 h40 v47 h47
  subst h9; subst h23; subst h33; subst h40; subst h47
  rw [← bc_all set h] at hQ
  exact hQ
theorem wf_pow {s : Nat → Nat} (hW : WF s) : 2 ^ s 0 ≤ 4096 := show 2 ^ s 0 ≤ 2 ^ 12 from Nat.pow_le_pow_right (by omega) hW.1
theorem pcn_le (set : Nat) : ∀ k, pcn set k ≤ k
  | 0 => Nat.le_refl 0
  | k + 1 => by
    have := pcn_le set k
    simp only [pcn]
    split <;> omega
theorem sp_reasonB {s : Nat → Nat} (hW : WF s) {set : Nat} (hs : set < 2 ^ s 0) {lim must nev : Int32} {barred needed : Nat → Int32} (h2 : lim = iI (s 2)) (h3 : must = iI (s 3)) (h4 : nev = iI (s 4)) (hb : barred set = iI (ors s 3 set (s 0))) (hn : needed set = iI (ors s 4 set (s 0))) {Q : Int32 → Prop} (hQ : Q (iI (rfb s set : Nat))) : wp_X0_reasonBesideWeight (iI set) lim must nev barred needed Q := by
  have hp := wf_pow hW
  have hc : (iI (set : Nat)).toNatClampNeg = set := iI_clN (by omega)
  have hin : vp_in (iI (set : Nat)) 4096 := iI_inN (by omega) (by omega)
  have hb1 : ors s 3 set (s 0) < 2 ^ s 0 := ors_lt fun k hk => (hW.2.2.2.2.2.2 k hk).2.2.2.1
  have hn1 : ors s 4 set (s 0) < 2 ^ s 0 := ors_lt fun k hk => (hW.2.2.2.2.2.2 k hk).2.2.2.2
  have hz : ∀ z : Nat, z < 4096 → ((iI (z : Nat) = (0 : Int32)) ↔ z = 0) := fun z hz => by
    rw [iI_lit 0]
    exact iI_inj4 hz (by omega)
  have hle : ∀ a b : Nat, a ≤ b → a &&& b ≤ a := fun a b _ => Nat.and_le_left
  have e1 : iI (ors s 3 set (s 0)) &&& iI set = 0 ↔ ors s 3 set (s 0) &&& set = 0 := by
    rw [iI_and]; exact hz _ (Nat.lt_of_le_of_lt Nat.and_le_left (by omega))
  have e2 : iI (ors s 4 set (s 0)) &&& (iI set ^^^ (-1 : Int32)) = 0 ↔ ors s 4 set (s 0) &&& (4095 ^^^ set) = 0 := by
    rw [iI_andn (by omega)]; exact hz _ (Nat.lt_of_le_of_lt Nat.and_le_left (by omega))
  have h3l := hW.2.2.2.1
  have h4l := hW.2.2.2.2.1
  have e3 : iI (s 3) &&& (iI set ^^^ (-1 : Int32)) = 0 ↔ s 3 &&& (4095 ^^^ set) = 0 := by
    rw [iI_andn (by omega)]; exact hz _ (Nat.lt_of_le_of_lt Nat.and_le_left (by omega))
  have e4 : iI (s 4) &&& iI set = 0 ↔ s 4 &&& set = 0 := by
    rw [iI_and]; exact hz _ (Nat.lt_of_le_of_lt Nat.and_le_left (by omega))
  have hp12 := pcn_le set 12
  have e5 : iI (pcn set 12) ≤ iI (s 2) ↔ ¬ s 2 < pcn set 12 := by
    have := hW.2.2.1
    rw [iI_le (by omega) (by omega) (by omega) (by omega)]
    omega
  unfold wp_X0_reasonBesideWeight
  refine sp_bitCount (by omega) ?_
  rw [hc, hb, hn, h2, h3, h4, e1, e2, e3, e4, e5]
  unfold rfb at hQ
  refine ⟨fun c1 => ⟨hin, fun c2 => ⟨hin, fun c3 => ⟨fun c4 => ⟨fun c5 => ?_, fun c5 => ?_⟩, fun c4 => ?_⟩, fun c3 => ?_⟩, fun c2 => ?_⟩, fun c1 => ?_⟩
  · rw [if_neg c1, if_neg (by simpa using c2), if_neg (by simpa using c3), if_neg (by simpa using c4), if_neg (by simpa using c5)] at hQ
    exact hQ
  · rw [if_neg c1, if_neg (by simpa using c2), if_neg (by simpa using c3), if_neg (by simpa using c4), if_pos c5] at hQ
    exact hQ
  · rw [if_neg c1, if_neg (by simpa using c2), if_neg (by simpa using c3), if_pos c4] at hQ
    exact hQ
  · rw [if_neg c1, if_neg (by simpa using c2), if_pos c3] at hQ
    exact hQ
  · rw [if_neg c1, if_pos c2] at hQ
    exact hQ
  · rw [if_pos (Classical.not_not.mp c1)] at hQ
    exact hQ
theorem sp_reason {s : Nat → Nat} (hW : WF s) {set cap : Nat} (hcap : cap ≤ 999) (hs : set < 2 ^ s 0) {sets lim must nev : Int32} {weight gain joy barred needed : Nat → Int32} (hP : chP s sets lim must nev weight gain joy barred needed) {Q : Int32 → Prop} (hQ : Q (iI (rf s cap set : Nat))) : wp_X0_reason (iI set) (iI cap) lim must nev weight barred needed Q := by
  obtain ⟨h1, h2, h3, h4, h5, h6, h7, h8, h9⟩ := hP
  have w1 := h5 set hs
  have w4 := h8 set hs
  have w5 := h9 set hs
  have hp := wf_pow hW
  have hc : (iI (set : Nat)).toNatClampNeg = set := iI_clN (by omega)
  have hsm : sm s 0 set (s 0) ≤ s 0 * 99 := sm_le fun k hk => (hW.2.2.2.2.2.2 k hk).1
  have h12 := hW.1
  unfold wp_X0_reason
  rw [hc, w1, iI_le (by omega) (by omega) (by omega) (by omega)]
  unfold rf at hQ
  refine ⟨iI_inN (by omega) (by omega), fun c => ?_, fun c => ?_⟩
  · rw [if_neg (by omega)] at hQ
    exact sp_reasonB hW hs h2 h3 h4 w4 w5 hQ
  · rw [if_pos (by omega)] at hQ
    exact hQ
theorem sp_build_L52 {s : Nat → Nat} {i : Nat} (hi : i < 12) (hW : i < s 0) {t1_items t1_limit t1_mustSet t1_neverSet t_sets t_limit t_mustSet t_neverSet : Int32} {t1_weight t1_gain t1_joy t1_bars t1_needs : Nat → Int32}
    (w1 : t1_weight i = iI (s (6 + 5 * i))) (w2 : t1_gain i = iI (s (6 + 5 * i + 1))) (w3 : t1_joy i = iI (s (6 + 5 * i + 2))) (w4 : t1_bars i = iI (s (6 + 5 * i + 3))) (w5 : t1_needs i = iI (s (6 + 5 * i + 4)))
    {k : (Nat → Int32) → (Nat → Int32) → (Nat → Int32) → (Nat → Int32) → (Nat → Int32) → Prop} {Q : Int32 → Int32 → Int32 → Int32 → (Nat → Int32) → (Nat → Int32) → (Nat → Int32) → (Nat → Int32) → (Nat → Int32) → Prop}
    (hk : ∀ w g j b n, chA s (i + 1) (2 ^ i + 2 ^ i) w g j b n → k w g j b n) :
    ∀ (d x : Nat) (w g j b n : Nat → Int32), x + d = 2 ^ i → chA s (i + 1) (2 ^ i + x) w g j b n → wp_X0_build_L52 t1_items t1_limit t1_mustSet t1_neverSet t1_weight t1_gain t1_joy t1_bars t1_needs (iI (i : Nat)) (iI ((2 ^ i : Nat) : Int)) t_sets t_limit t_mustSet t_neverSet k Q (d + 1) (iI (x : Nat)) w g j b n := by
  have hp : 2 ^ i ≤ 2048 := show 2 ^ i ≤ 2 ^ 11 from Nat.pow_le_pow_right (by omega) (by omega)
  intro d
  induction d with
  | zero =>
    intro x w g j b n hx hA
    unfold wp_X0_build_L52
    rw [iI_le (by omega) (by omega) (by omega) (by omega)]
    refine ⟨fun _ => hk _ _ _ _ _ ?_, fun c => absurd (by omega) c⟩
    rw [show 2 ^ i + 2 ^ i = 2 ^ i + x by omega]
    exact hA
  | succ d ih =>
    intro x w g j b n hx hA
    unfold wp_X0_build_L52
    have i1 : vp_in (iI (x : Nat)) 4096 := iI_inN (by omega) (by omega)
    have i2 : vp_in (iI (i : Nat)) 12 := iI_inN (by omega) (by omega)
    have e3 : iI ((2 ^ i : Nat) : Int) + iI (x : Nat) = iI ((2 ^ i + x : Nat) : Int) := by rw [iI_add]; rfl
    have i3 : vp_in (iI ((2 ^ i + x : Nat) : Int)) 4096 := iI_inN (by omega) (by omega)
    have c1 : (iI (x : Nat)).toNatClampNeg = x := iI_clN (by omega)
    have c2 : (iI (i : Nat)).toNatClampNeg = i := iI_clN (by omega)
    have c3 : (iI ((2 ^ i + x : Nat) : Int)).toNatClampNeg = 2 ^ i + x := iI_clN (by omega)
    rw [iI_le (by omega) (by omega) (by omega) (by omega), e3, c1, c2, c3, iI_succ]
    refine ⟨fun c => absurd c (by omega), fun _ => ⟨i1, i2, i3, i1, i2, i3, i1, i2, i3, i1, i2, i3, i1, i2, i3, ?_⟩⟩
    obtain ⟨a1, a2, a3, a4, a5⟩ := hA
    have hxl : x < 2 ^ i := by omega
    refine ih (x + 1) _ _ _ _ _ (by omega) ⟨?_, ?_, ?_, ?_, ?_⟩
    · refine upd_ext (m := 2 ^ i + x) a1 ?_
      rw [a1 x (by omega), w1, iI_add, sm_high hxl, sm_low hxl]
      rfl
    · refine upd_ext (m := 2 ^ i + x) a2 ?_
      rw [a2 x (by omega), w2, iI_add, sm_high hxl, sm_low hxl]
      rfl
    · refine upd_ext (m := 2 ^ i + x) a3 ?_
      rw [a3 x (by omega), w3, iI_add, sm_high hxl, sm_low hxl]
      rfl
    · refine upd_ext (m := 2 ^ i + x) a4 ?_
      rw [a4 x (by omega), w4, iI_or, ors_high hxl, ors_low hxl]
    · refine upd_ext (m := 2 ^ i + x) a5 ?_
      rw [a5 x (by omega), w5, iI_or, ors_high hxl, ors_low hxl]
theorem sp_build {s : Nat → Nat} (hW : WF s) {t1_items t1_capacity t1_limit t1_mustSet t1_neverSet t1_hand t_sets t_limit t_mustSet t_neverSet : Int32} {t1_weight t1_gain t1_joy t1_bars t1_needs t_weight t_gain t_joy t_barred t_needed : Nat → Int32}
    (hz : t_weight 0 = 0 ∧ t_gain 0 = 0 ∧ t_joy 0 = 0 ∧ t_barred 0 = 0 ∧ t_needed 0 = 0)
    (hP : suP s t1_items t1_capacity t1_limit t1_mustSet t1_neverSet t1_hand t1_weight t1_gain t1_joy t1_bars t1_needs)
    {Q : Int32 → Int32 → Int32 → Int32 → (Nat → Int32) → (Nat → Int32) → (Nat → Int32) → (Nat → Int32) → (Nat → Int32) → Prop}
    (hQ : ∀ se li mu ne w g j b n, chP s se li mu ne w g j b n → Q se li mu ne w g j b n) :
    wp_X0_build t1_items t1_limit t1_mustSet t1_neverSet t_sets t_limit t_mustSet t_neverSet t_weight t1_weight t_gain t1_gain t_joy t1_joy t_barred t1_bars t_needed t1_needs Q := by
  obtain ⟨h0, h1, h2, h3, h4, h5, h6⟩ := hP
  have hn := hW.1
  unfold wp_X0_build
  refine ⟨s 0 + 1, ?_⟩
  have key : ∀ (d i : Nat) (w g j b n : Nat → Int32), i + d = s 0 → chA s i (2 ^ i) w g j b n → wp_X0_build_L31 t1_items t1_limit t1_mustSet t1_neverSet t1_weight t1_gain t1_joy t1_bars t1_needs t1_limit t1_mustSet t1_neverSet Q (d + 1) (iI (i : Nat)) (iI ((2 ^ i : Nat) : Int)) w g j b n := by
    intro d
    induction d with
    | zero =>
      intro i w g j b n hi hA
      unfold wp_X0_build_L31
      rw [h0, iI_le (by omega) (by omega) (by omega) (by omega)]
      have hi : i = s 0 := by omega
      subst hi
      exact ⟨fun _ => hQ _ _ _ _ _ _ _ _ _ ⟨rfl, h2, h3, h4, hA⟩, fun c => absurd (Int.le_refl _) c⟩
    | succ d ih =>
      intro i w g j b n hi hA
      unfold wp_X0_build_L31
      rw [h0, iI_le (by omega) (by omega) (by omega) (by omega), iI_lit 12, iI_le (by omega) (by omega) (by omega) (by omega)]
      refine ⟨fun c => absurd c (by omega), fun _ => ⟨fun c => absurd c (by omega), fun _ v hv => ⟨2 ^ i + 1, ?_⟩⟩⟩
      rw [iI_shl1 i (by omega)] at hv
      subst hv
      obtain ⟨w1, w2, w3, w4, w5⟩ := h6 i (by omega)
      rw [← h0]
      have z : (0 : Int32) = iI ((0 : Nat) : Int) := iI_lit 0
      rw [z]
      refine sp_build_L52 (by omega) (by omega) w1 w2 w3 w4 w5 (fun w g j b n h => ?_) (2 ^ i) 0 w g j b n (by omega) ?_
      · have e2 : (2 : Int32) * iI ((2 ^ i : Nat) : Int) = iI ((2 ^ (i + 1) : Nat) : Int) := by
          rw [iI_lit 2, iI_mul, Nat.pow_succ]
          congr 1
          omega
        rw [e2, iI_succ]
        refine ih (i + 1) w g j b n (by omega) ?_
        rw [show 2 ^ (i + 1) = 2 ^ i + 2 ^ i by rw [Nat.pow_succ]; omega]
        exact h
      · obtain ⟨a1, a2, a3, a4, a5⟩ := hA
        refine ⟨fun q hq => ?_, fun q hq => ?_, fun q hq => ?_, fun q hq => ?_, fun q hq => ?_⟩
        · rw [a1 q (by omega), sm_low (by omega)]
        · rw [a2 q (by omega), sm_low (by omega)]
        · rw [a3 q (by omega), sm_low (by omega)]
        · rw [a4 q (by omega), ors_low (by omega)]
        · rw [a5 q (by omega), ors_low (by omega)]
  have z0 : (0 : Int32) = iI ((0 : Nat) : Int) := iI_lit 0
  have z1 : (1 : Int32) = iI ((2 ^ 0 : Nat) : Int) := iI_lit 1
  have fin := key (s 0) 0 t_weight t_gain t_joy t_barred t_needed (by omega) ?_
  · rw [← z0, ← z1] at fin
    exact fin
  · obtain ⟨a1, a2, a3, a4, a5⟩ := hz
    refine ⟨fun q hq => ?_, fun q hq => ?_, fun q hq => ?_, fun q hq => ?_, fun q hq => ?_⟩ <;> obtain rfl : q = 0 := by omega
    · exact a1.trans z0
    · exact a2.trans z0
    · exact a3.trans z0
    · exact a4.trans z0
    · exact a5.trans z0
theorem sm_empty {s : Nat → Nat} {w : Nat} : ∀ n, sm s w 0 n = 0
  | 0 => rfl
  | n + 1 => by
    simp only [sm]
    rw [sm_empty n]
    simp
theorem ors_empty {s : Nat → Nat} {w : Nat} : ∀ n, ors s w 0 n = 0
  | 0 => rfl
  | n + 1 => by
    simp only [ors]
    rw [ors_empty n]
    simp
theorem chP_zero {s : Nat → Nat} {se li mu ne : Int32} {w g j b n : Nat → Int32} (h : chP s se li mu ne w g j b n) : w 0 = 0 ∧ g 0 = 0 ∧ j 0 = 0 ∧ b 0 = 0 ∧ n 0 = 0 := by
  obtain ⟨-, -, -, -, a1, a2, a3, a4, a5⟩ := h
  have hp := Nat.two_pow_pos (s 0)
  have z0 : (0 : Int32) = iI ((0 : Nat) : Int) := iI_lit 0
  rw [a1 0 hp, a2 0 hp, a3 0 hp, a4 0 hp, a5 0 hp, sm_empty, sm_empty, sm_empty, ors_empty, ors_empty, z0]
  exact ⟨rfl, rfl, rfl, rfl, rfl⟩
