/-! THE LAW'S LAYERS AND POINTS, whole -/
section
variable {s : Nat → Nat} {M : Nat} {G J : Nat → Nat} {a13 a19 a26 a33 a40 : Nat → Int32}
variable {nn : Nat} {by_ : Nat → Int} {cc pp : Int} {Q : Int32 → DT → Prop} {n1 : Nat}
theorem sL_222b (h : PQ s (2 ^ s 0) M G J a13 a19 a26 a33 a40) (hM : M ≤ 128) (h1 : n1 = M) {ta : Nat → Int32} {q n0 : Nat} (hq : q < 2 ^ s 0) (hn0 : n0 < M) (e1 : sm s 1 q (s 0) = G n0) (e2 : sm s 2 q (s 0) = J n0) {k269 : Int32 → DT → Prop} {d : DT} (hI : IV s nn by_ cc pp d) (hk : k269 (ta n0) d) : ∀ (f n : Nat), n + f = M → n0 < n → wp_L_layers_L222 a13 a19 n1 (iI (M : Nat)) (iI (q : Nat)) ta k269 Q (f + 1) (ta n0) (iI (n : Nat)) d := by
  intro f
  induction f with
  | zero =>
    intro n hn hn2
    unfold wp_L_layers_L222
    obtain rfl : n = M := by omega
    exact ⟨fun _ => hk, fun z => absurd (Int32.le_refl _) z⟩
  | succ f ih =>
    intro n hn hn2
    obtain ⟨⟨g1, g2⟩, g3, g4, -⟩ := h.2.1 n (by omega)
    obtain ⟨⟨g5, g6⟩, -⟩ := h.2.1 n0 hn0
    have next := ih (n + 1) (by omega) (by omega)
    have i2 : vp_in (iI (n : Nat)) 256 := in_lit (by omega) (by omega)
    unfold wp_L_layers_L222
    rw [iI_le (by omega) (by omega) (by omega) (by omega), iI_clN (by omega), g3, g4, iI_succ]
    refine ⟨fun z => by omega, fun _ => ⟨i2, sL_sum (w := 1) hI hq (by omega) ?_⟩⟩
    rw [e1, iI_eq (by omega) (by omega) (by omega) (by omega)]
    refine ⟨fun _ => next, fun z => ⟨i2, sL_sum (w := 2) hI hq (by omega) ?_⟩⟩
    rw [e2, iI_eq (by omega) (by omega) (by omega) (by omega)]
    exact ⟨fun _ => next, fun z2 => absurd ⟨by omega, by omega⟩ (h.2.2.1 n0 n hn2 (by omega))⟩
theorem sL_222 (h : PQ s (2 ^ s 0) M G J a13 a19 a26 a33 a40) (hM : M ≤ 128) (h1 : n1 = M) {ta : Nat → Int32} {q n0 : Nat} (hq : q < 2 ^ s 0) (hn0 : n0 < M) (e1 : sm s 1 q (s 0) = G n0) (e2 : sm s 2 q (s 0) = J n0) {k269 : Int32 → DT → Prop} {d : DT} (hI : IV s nn by_ cc pp d) (hk : k269 (ta n0) d) : ∀ (f n : Nat), n + f = M → n ≤ n0 → wp_L_layers_L222 a13 a19 n1 (iI (M : Nat)) (iI (q : Nat)) ta k269 Q (f + 1) (-1) (iI (n : Nat)) d := by
  intro f
  induction f with
  | zero =>
    intro n hn hn2
    omega
  | succ f ih =>
    intro n hn hn2
    obtain ⟨⟨g1, g2⟩, g3, g4, -⟩ := h.2.1 n (by omega)
    obtain ⟨⟨g5, g6⟩, -⟩ := h.2.1 n0 hn0
    have i2 : vp_in (iI (n : Nat)) 256 := in_lit (by omega) (by omega)
    have next : n ≠ n0 → wp_L_layers_L222 a13 a19 n1 (iI (M : Nat)) (iI (q : Nat)) ta k269 Q (f + 1) (-1) (iI ((n + 1 : Nat) : Int)) d := fun z => ih (n + 1) (by omega) (by omega)
    unfold wp_L_layers_L222
    rw [iI_le (by omega) (by omega) (by omega) (by omega), iI_clN (by omega), g3, g4, iI_succ]
    refine ⟨fun z => by omega, fun _ => ⟨i2, sL_sum (w := 1) hI hq (by omega) ?_⟩⟩
    rw [e1, iI_eq (by omega) (by omega) (by omega) (by omega)]
    refine ⟨fun z => next (fun e => by subst e; omega), fun z => ⟨i2, sL_sum (w := 2) hI hq (by omega) ?_⟩⟩
    rw [e2, iI_eq (by omega) (by omega) (by omega) (by omega)]
    refine ⟨fun z => next (fun e => by subst e; omega), fun z2 => ⟨in_lit (by omega) (by omega), fun v hv => ?_⟩⟩
    have en : n = n0 := by
      rcases Nat.lt_or_ge n n0 with c | c
      · exact absurd ⟨by omega, by omega⟩ (h.2.2.1 n n0 c hn0)
      · omega
    subst en
    rw [hv]
    exact sL_222b h hM h1 hq hn0 e1 e2 hI hk f (n + 1) (by omega) (by omega)
theorem sL_195 (hW : WF s) (h7 : s 0 ≤ 7) (h : PQ s (2 ^ s 0) M G J a13 a19 a26 a33 a40) (hM : M ≤ 128) (h1 : n1 = M) {ta : Nat → Int32} (hA : ∀ i, i < M → ta i = iI (LL s G J i : Nat)) (hQ : ∀ d, IV s nn by_ cc pp d → Q 1 d) : ∀ (f q : Nat) (d : DT), 2 ^ s 0 ≤ q + f → q ≤ 300 → IV s nn by_ cc pp d → wp_L_layers_L195 a13 a19 n1 (iI (M : Nat)) ta Q (f + 1) (iI (q : Nat)) d := by
  have hp := p2_7 h7
  have hp0 := Nat.two_pow_pos (s 0)
  intro f
  induction f with
  | zero =>
    intro q d hq hq2 hI
    unfold wp_L_layers_L195
    refine sN_property (k := 0) hI (by omega) ?_
    show ((1 : Int32) <<< (iI (s 0 : Nat) &&& 31) ≤ _ → _) ∧ (¬ (1 : Int32) <<< (iI (s 0 : Nat) &&& 31) ≤ _ → _)
    rw [iI_shl1 _ (by omega), iI_le (by omega) (by omega) (by omega) (by omega)]
    exact ⟨fun _ => hQ d hI, fun z => by omega⟩
  | succ f ih =>
    intro q d hq hq2 hI
    have r6 := rf_le6 (s := s) (c := s 1) (q := q)
    have next : q < 2 ^ s 0 → ∀ d, IV s nn by_ cc pp d → ∀ v292 : Int32, v292 = iI (q : Nat) + ((1 : Int32) + (iI (q : Nat) / (16 : Int32))) → wp_L_layers_L195 a13 a19 n1 (iI (M : Nat)) ta Q (f + 1) v292 d := by
      intro hq3 d hI v hv
      rw [show (16 : Int32) = iI ((16 : Nat) : Int) from rfl, iI_divN (by omega) (by omega) (by omega), show (1 : Int32) = iI ((1 : Nat) : Int) from rfl, iI_add, iI_add] at hv
      subst hv
      have := ih (q + (1 + q / 16)) d (by omega) (by omega) hI
      exact this
    unfold wp_L_layers_L195
    refine sN_property (k := 0) hI (by omega) ?_
    show ((1 : Int32) <<< (iI (s 0 : Nat) &&& 31) ≤ _ → _) ∧ (¬ (1 : Int32) <<< (iI (s 0 : Nat) &&& 31) ≤ _ → _)
    rw [iI_shl1 _ (by omega), iI_le (by omega) (by omega) (by omega) (by omega)]
    refine ⟨fun _ => hQ d hI, fun z => sL_refusal hI (by omega) ?_⟩
    rw [eq0_I (by omega) (by omega)]
    refine ⟨fun hr => sN_layerOf hI (by omega) fun d2 hI2 => ?_, fun hr => ⟨M + 1, ?_⟩⟩
    · rw [if_neg (by omega)]
      exact ⟨fun _ => next (by omega) d2 hI2, fun z => absurd rfl z⟩
    · obtain ⟨n0, hn0, e1, e2⟩ := h.2.2.2.1 q (by omega) (by omega)
      refine sL_222 h hM h1 (by omega) hn0 e1 e2 hI (sN_layerOf hI (by omega) fun d2 hI2 => ?_) M 0 (by omega) (by omega)
      rw [if_pos (by omega), hA n0 hn0]
      have ek : kyP s q = kyN G J n0 := by unfold kyP kyN; rw [e1, e2]
      rw [ek]
      exact ⟨fun _ => next (by omega) d2 hI2, fun z => absurd rfl z⟩
theorem sL_14 (hM : M ≤ 128) (h1 : n1 = M) {t1 t2 : Nat → Int32} {x5 x6 : Int32} {d : DT} {k32 : (Nat → Int32) → Prop} (hk : ∀ ta : Nat → Int32, (∀ i, i < M → ta i = -1) → k32 ta) : ∀ (f n : Nat) (ta : Nat → Int32), n + f = M → (∀ i, i < n → ta i = -1) → wp_L_layers_L14 t1 t2 n1 (iI (M : Nat)) x5 x6 d k32 Q (f + 1) (iI (n : Nat)) ta := by
  intro f
  induction f with
  | zero =>
    intro n ta hn h
    unfold wp_L_layers_L14
    obtain rfl : n = M := by omega
    exact ⟨fun _ => hk ta h, fun z => absurd (Int32.le_refl _) z⟩
  | succ f ih =>
    intro n ta hn h
    unfold wp_L_layers_L14
    rw [iI_le (by omega) (by omega) (by omega) (by omega), iI_clN (by omega), iI_succ]
    refine ⟨fun z => by omega, fun _ => ⟨in_lit (by omega) (by omega), ih (n + 1) _ (by omega) fun i hi => ?_⟩⟩
    by_cases e : i = n
    · subst e; rw [pk_us]
    · rw [pk_un e]; exact h i (by omega)
theorem sL_layers (hW : WF s) (h7 : s 0 ≤ 7) (h : PQ s (2 ^ s 0) M G J a13 a19 a26 a33 a40) {d : DT} (hI : IV s nn by_ cc pp d) (hQ : ∀ d, IV s nn by_ cc pp d → Q 1 d) : wp_L_layers (iI (M : Nat)) a13 a19 d Q := by
  have hp := p2_7 h7
  have hM : M ≤ 128 := by have := h.1; omega
  have hF := PQ_LF hW h
  unfold wp_L_layers
  rw [lt0_I (by omega) (by omega), iI_clN (by omega)]
  refine ⟨by omega, fun n1 h1 => ⟨by omega, M + 1, ?_⟩⟩
  refine sL_14 hM h1.symm (fun ta hta => ⟨LC s + 1, ?_⟩) M 0 _ (by omega) (fun i hi => absurd hi (Nat.not_lt_zero _))
  have z0 : fb_ct (fun n => decide (LL s G J n < 0)) M = 0 := fb_ct_zero.mpr fun k _ => decide_eq_false (Nat.not_lt_zero _)
  have key := sL_32 (Q := Q) (nn := nn) (by_ := by_) (cc := cc) (pp := pp) (n1 := n1) hW h hF hM h1.symm (k181 := fun (x6 : Int32) (d : DT) (ta1 : Nat → Int32) => wpK_X10_layers d (fun (r182 : Int32) (u182_2 : DT) => (r182 = x6 → (∃ n195, wp_L_layers_L195 a13 a19 n1 (iI (M : Nat)) ta1 Q n195 (0 : Int32) u182_2)) ∧ (¬ r182 = x6 → (Q (0 : Int32) u182_2)))) (fun d ta hI hA => sK_layers hI fun d2 hI2 => ⟨fun _ => ⟨2 ^ s 0 + 1, sL_195 hW h7 h hM h1.symm hA hQ (2 ^ s 0) 0 d2 (by omega) (by omega) hI2⟩, fun z => absurd rfl z⟩) (LC s) 0 d ta (by omega) hI (fun i hi => by rw [if_neg (by omega)]; exact hta i hi)
  rw [z0, Nat.sub_zero] at key
  exact key
theorem sL_points (h7 : s 0 ≤ 7) {d : DT} (hI : IV s nn by_ cc pp d) (hQ : ∀ d, IV s nn by_ cc pp d → Q 1 d) : wp_L_points d Q := by
  have hW := hI.1
  have hp := p2_7 h7
  have hN := PN_few hW
  have hc : ALW s ≤ 2 ^ s 0 := fb_ct_le _ _
  unfold wp_L_points
  refine sN_property (k := 0) hI (by omega) fun v7 h7' => ?_
  have e7 : v7 = iI ((2 ^ s 0 : Nat) : Int) := by
    rw [h7']
    exact iI_shl1 _ (by omega)
  subst e7
  refine ⟨2 ^ s 0 + 1, sL_50 hW h7 (fun M G J a13 a19 a26 a33 a40 d hI hP => ?_) (2 ^ s 0) 0 0 (fun _ => 0) (fun _ => 0) _ _ _ _ _ d (by omega) hI ⟨Nat.le_refl _, fun n hn => absurd hn (Nat.not_lt_zero _), fun a b _ hb => absurd hb (Nat.not_lt_zero _), fun r hr => absurd hr (Nat.not_lt_zero _), fun n _ => rfl⟩⟩
  have hM : M ≤ 128 := by have := hP.1; omega
  have tail : ∀ d, IV s nn by_ cc pp d → wp_L_layers (iI (M : Nat)) a13 a19 d (fun (r581 : Int32) (u581_26 : DT) => (r581 = 0 → (Q (0 : Int32) u581_26)) ∧ (¬ r581 = 0 → (wp_L_asks (iI ((2 ^ s 0 : Nat) : Int)) u581_26 (fun (r589 : Int32) (u589_27 : DT) => (r589 = 0 → (Q (0 : Int32) u589_27)) ∧ (¬ r589 = 0 → (Q (1 : Int32) u589_27)))))) := fun d hI => sL_layers hW h7 hP hI fun d2 hI2 => ⟨fun z => absurd z (by decide), fun _ => sL_asks hW h7 hI2 fun d3 hI3 => ⟨fun z => absurd z (by decide), fun _ => hQ d3 hI3⟩⟩
  refine sK_allowed hI fun d2 hI2 => ⟨fun _ => sK_points hI2 fun d3 hI3 => ⟨901, ?_⟩, fun z => absurd rfl z⟩
  refine sL_302 hW h7 hP (fun d hI => sK_points hI fun d2 hI2 => ⟨fun z => absurd rfl z, fun _ => sK_area hI2 fun d3 hI3 => ⟨fun z => absurd rfl z, fun _ => sK_share hI3 fun d4 hI4 => ?_⟩⟩) 900 0 d3 (by omega) hI3
  rw [eq0_I (by omega) (by omega)]
  unfold shv
  refine ⟨fun c => ?_, fun c => ?_⟩
  · rw [if_neg (by omega)]
    have nf := fl_div (n := PN (HH s)) (m := ALW s) (by omega) (by omega) (by omega)
    exact ⟨nf, fun _ => tail d4 hI4, fun z => absurd (dcmp_self nf) z⟩
  · rw [if_pos (by omega)]
    exact ⟨fun _ => tail d4 hI4, fun z => absurd (by decide +kernel) z⟩
end
