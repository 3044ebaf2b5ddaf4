/-! WITHOUT AN ITEM: worth; capacityFor -/
theorem ct0 {p : Nat → Bool} : ∀ {n : Nat}, fb_ct p n = 0 → ∀ k, k < n → p k = false
  | 0, _, k, hk => absurd hk (by omega)
  | n + 1, h, k, hk => by
    rw [fb_ct_succ] at h
    by_cases e : k = n
    · subst e
      cases c : p k with
      | false => rfl
      | true => rw [c] at h; simp at h
    · exact ct0 (n := n) (by omega) k (by omega)
theorem ct_none {p : Nat → Bool} : ∀ {n : Nat}, (∀ k, k < n → p k = false) → fb_ct p n = 0
  | 0, _ => rfl
  | n + 1, h => by
    rw [fa_ct_no' (h n (by omega))]
    exact ct_none fun k hk => h k (by omega)
theorem PN0 {s : Nat → Nat} {cap wo : Nat} (h : fb_ct (okS s cap wo) (2 ^ s 0) = 0) : PN (HS s cap wo) = 0 := by
  refine ct_none fun g _ => ?_
  have e : HS s cap wo g = -1 := by
    by_cases c : HS s cap wo g = -1
    · exact c
    · have e1 := stair_ne (f := JA s cap wo) (g := g) c
      have e2 : JA s cap wo g ≠ -1 := by rw [← e1]; exact c
      obtain ⟨q, q1, q2, -, -⟩ := ja_att e2
      rw [ct0 h q q1] at q2
      exact absurd q2 (by decide)
  simp only [isP, decide_eq_false_iff_not]
  exact fun z => z e
theorem AR0 {s : Nat → Nat} {cap wo : Nat} (h : fb_ct (okS s cap wo) (2 ^ s 0) = 0) : AR (HS s cap wo) = 0 := by
  unfold AR
  rw [PN0 h]
  rfl
theorem and_or0 {a b q : Nat} : (a ||| b) &&& q = 0 ↔ a &&& q = 0 ∧ q &&& b = 0 := by
  constructor
  · intro h
    constructor <;> refine Nat.eq_of_testBit_eq fun i => ?_ <;> have := congrArg (fun z => z.testBit i) h <;> simp only [Nat.testBit_and, Nat.testBit_or, Nat.zero_testBit] at this ⊢ <;> revert this <;> cases a.testBit i <;> cases b.testBit i <;> cases q.testBit i <;> simp
  · rintro ⟨h1, h2⟩
    refine Nat.eq_of_testBit_eq fun i => ?_
    have t1 := congrArg (fun z => z.testBit i) h1
    have t2 := congrArg (fun z => z.testBit i) h2
    simp only [Nat.testBit_and, Nat.testBit_or, Nat.zero_testBit] at t1 t2 ⊢
    revert t1 t2
    cases a.testBit i <;> cases b.testBit i <;> cases q.testBit i <;> simp
theorem ok_su4 {s : Nat → Nat} {b cap q : Nat} : okS (su s 4 (s 4 ||| b)) cap 0 q = okS s cap b q := by
  unfold okS
  have e : (rf (su s 4 (s 4 ||| b)) cap q = 0 ∧ q &&& 0 = 0) ↔ (rf s cap q = 0 ∧ q &&& b = 0) := by
    have hz : q &&& 0 = 0 := Nat.and_zero q
    unfold rf rfb
    rw [su_ne (show (0 : Nat) ≠ 4 by omega), su_ne (show (2 : Nat) ≠ 4 by omega), su_ne (show (3 : Nat) ≠ 4 by omega), su_eq, sm_su (by omega), ors_su (by omega), ors_su (by omega)]
    by_cases c1 : cap < sm s 0 q (s 0)
    · simp only [if_pos c1]
      constructor <;> (rintro ⟨z, -⟩; exact absurd z (by omega))
    simp only [if_neg c1]
    by_cases c2 : s 2 < pcn q 12
    · simp only [if_pos c2]
      constructor <;> (rintro ⟨z, -⟩; exact absurd z (by omega))
    simp only [if_neg c2]
    by_cases c3 : ors s 3 q (s 0) &&& q ≠ 0
    · simp only [if_pos c3]
      constructor <;> (rintro ⟨z, -⟩; exact absurd z (by omega))
    simp only [if_neg c3]
    by_cases c4 : ors s 4 q (s 0) &&& (4095 ^^^ q) ≠ 0
    · simp only [if_pos c4]
      constructor <;> (rintro ⟨z, -⟩; exact absurd z (by omega))
    simp only [if_neg c4]
    by_cases c5 : s 3 &&& (4095 ^^^ q) ≠ 0
    · simp only [if_pos c5]
      constructor <;> (rintro ⟨z, -⟩; exact absurd z (by omega))
    simp only [if_neg c5]
    by_cases c6 : (s 4 ||| b) &&& q ≠ 0
    · simp only [if_pos c6]
      constructor
      · rintro ⟨z, -⟩; exact absurd z (by omega)
      · rintro ⟨z1, z2⟩
        refine absurd (and_or0.mpr ⟨?_, z2⟩) c6
        by_cases c7 : s 4 &&& q = 0
        · exact c7
        · simp only [if_pos (show s 4 &&& q ≠ 0 from c7)] at z1
          exact absurd z1 (by omega)
    · simp only [if_neg c6]
      have c6' : (s 4 ||| b) &&& q = 0 := by omega
      have c7 := and_or0.mp c6'
      simp only [if_neg (show ¬ s 4 &&& q ≠ 0 from fun z => z c7.1)]
      exact ⟨fun _ => ⟨trivial, c7.2⟩, fun _ => ⟨trivial, hz⟩⟩
  rw [Bool.eq_iff_iff]
  simp only [Bool.and_eq_true, decide_eq_true_eq]
  exact e
theorem HS_su4 {s : Nat → Nat} {b cap : Nat} : HS (su s 4 (s 4 ||| b)) cap 0 = HS s cap b := by
  unfold HS
  have e : JA (su s 4 (s 4 ||| b)) cap 0 = JA s cap b := by
    funext g
    unfold JA
    rw [su_ne (show (0 : Nat) ≠ 4 by omega)]
    exact ja_congr (fun q _ => ⟨ok_su4, sm_su (by omega) _, sm_su (by omega) _⟩) g
  rw [e]
theorem HH_su4 {s : Nat → Nat} {b : Nat} : HH (su s 4 (s 4 ||| b)) = HS s (s 1) b := by
  unfold HH
  rw [su_ne (show (1 : Nat) ≠ 4 by omega), HS_su4]
theorem ct_congr {p p' : Nat → Bool} : ∀ {n : Nat}, (∀ k, k < n → p k = p' k) → fb_ct p n = fb_ct p' n
  | 0, _ => rfl
  | n + 1, h => by
    rw [fb_ct_succ, fb_ct_succ, h n (by omega), ct_congr (n := n) fun k hk => h k (by omega)]
theorem WF_su4 {s : Nat → Nat} (hW : WF s) {b : Nat} (hb : b < 2 ^ s 0) : WF (su s 4 (s 4 ||| b)) := by
  obtain ⟨h0, h1, h2, h3, h4, h5, h6⟩ := hW
  refine ⟨by rw [su_ne (by omega)]; exact h0, by rw [su_ne (by omega)]; exact h1, by rw [su_ne (by omega)]; exact h2, by rw [su_ne (by omega), su_ne (by omega)]; exact h3, by rw [su_eq, su_ne (by omega)]; exact Nat.or_lt_two_pow h4 hb, by rw [su_ne (by omega), su_ne (by omega)]; exact h5, fun k hk => ?_⟩
  rw [su_ne (show (0 : Nat) ≠ 4 by omega)] at hk
  rw [su_ne (by omega), su_ne (by omega), su_ne (by omega), su_ne (by omega), su_ne (by omega), su_ne (by omega)]
  exact h6 k hk
/-- what item k is worth -/
def wth (s : Nat → Nat) (k : Nat) : Int :=
  if fb_ct (okS s (s 1) 0) (2 ^ s 0) = 0 then 0 else if fb_ct (okS s (s 1) (2 ^ k)) (2 ^ s 0) = 0 then -1 else AR (HH s) - AR (HS s (s 1) (2 ^ k))
theorem ct_le (p : Nat → Bool) (n : Nat) : fb_ct p n ≤ n := fb_ct_le _ _
theorem sq_worth {s : Nat → Nat} (hW : WF s) {hand : Int32} {p1 : Int32} {t_frontierFresh : Int32} {t_now_items : Int32} {t_now_capacity : Int32} {t_now_limit : Int32} {t_now_mustSet : Int32} {t_now_neverSet : Int32} {t_choices_sets : Int32} {t_choices_limit : Int32} {t_choices_mustSet : Int32} {t_choices_neverSet : Int32} {t_choices_weight : Nat → Int32} {t_now_weight : Nat → Int32} {t_choices_gain : Nat → Int32} {t_now_gain : Nat → Int32} {t_choices_joy : Nat → Int32} {t_now_joy : Nat → Int32} {t_choices_barred : Nat → Int32} {t_now_bars : Nat → Int32} {t_choices_needed : Nat → Int32} {t_now_needs : Nat → Int32} {t_stairs_allowedCount : Int32} {t_stairs_joyAt : Nat → Int32} {t_frontier_size : Int32} {t_frontier_vertexCount : Int32} {t_frontier_allowedCount : Int32} {t_frontier_areaBelow : Int32} {t_frontier_pointAt : Nat → Int32} {t_frontier_gain : Nat → Int32} {t_frontier_joy : Nat → Int32} {t_frontier_choice : Nat → Int32} {t_frontier_times : Nat → Int32} {t_frontier_light : Nat → Int32} {t_frontier_mark : Nat → Int32} {t_frontier_vertexPoint : Nat → Int32} {Q : Int32 → Int32 → Int32 → Int32 → Int32 → Int32 → (Nat → Int32) → (Nat → Int32) → (Nat → Int32) → (Nat → Int32) → (Nat → Int32) → Int32 → (Nat → Int32) → Int32 → Int32 → Int32 → Int32 → (Nat → Int32) → (Nat → Int32) → (Nat → Int32) → (Nat → Int32) → (Nat → Int32) → (Nat → Int32) → (Nat → Int32) → (Nat → Int32) → Prop} {QX : String → Int32 → Int32 → Int32 → Int32 → Int32 → (Nat → Int32) → (Nat → Int32) → (Nat → Int32) → (Nat → Int32) → (Nat → Int32) → Int32 → (Nat → Int32) → Int32 → Int32 → Int32 → Int32 → (Nat → Int32) → (Nat → Int32) → (Nat → Int32) → (Nat → Int32) → (Nat → Int32) → (Nat → Int32) → (Nat → Int32) → (Nat → Int32) → Prop} (hS : suP s t_now_items t_now_capacity t_now_limit t_now_mustSet t_now_neverSet hand t_now_weight t_now_gain t_now_joy t_now_bars t_now_needs) (hD : dkP s t_frontierFresh t_choices_sets t_choices_limit t_choices_mustSet t_choices_neverSet t_choices_weight t_choices_gain t_choices_joy t_choices_barred t_choices_needed t_frontier_size t_frontier_vertexCount t_frontier_allowedCount t_frontier_areaBelow t_frontier_pointAt t_frontier_gain t_frontier_joy t_frontier_choice t_frontier_times t_frontier_light t_frontier_mark t_frontier_vertexPoint) (hQ : 0 ≤ p1.toInt ∧ p1.toInt < s 0 → DQ s (Q (iI (wth s p1.toInt.toNat)))) (hX : ¬ (0 ≤ p1.toInt ∧ p1.toInt < s 0) → DQ s (QX "java/lang/IndexOutOfBoundsException")) : wp_X10_worth p1 t_frontierFresh t_now_items t_now_capacity t_now_limit t_now_mustSet t_now_neverSet t_choices_sets t_choices_limit t_choices_mustSet t_choices_neverSet t_choices_weight t_now_weight t_choices_gain t_now_gain t_choices_joy t_now_joy t_choices_barred t_now_bars t_choices_needed t_now_needs t_stairs_allowedCount t_stairs_joyAt t_frontier_size t_frontier_vertexCount t_frontier_allowedCount t_frontier_areaBelow t_frontier_pointAt t_frontier_gain t_frontier_joy t_frontier_choice t_frontier_times t_frontier_light t_frontier_mark t_frontier_vertexPoint Q QX := by
  have hp := wf_pow hW
  have h12 := hW.1
  unfold wp_X10_worth
  refine sp_reqItem hW hS.1 (fun h => sp_refresh hW hS hD fun sets lim must nev cw cg cj cb cn sac sja size vc ac area pa g j ch ti li mk vp hP hF => ?_) (fun h => hX h _ _ _ _ _ _ _ _ _ _ _ _ _ _ _ _ _ _ _ _ _ _ _ _ hD)
  have hd := dkP_1 hP hF
  obtain ⟨k, hk⟩ : ∃ k : Nat, p1.toInt = k := ⟨p1.toInt.toNat, by omega⟩
  have ep : p1 = iI (k : Nat) := by rw [iI_of p1, hk]
  have ans := fun sac2 sja2 => hQ h 1 sets lim must nev cw cg cj cb cn sac2 sja2 size vc ac area pa g j ch ti li mk vp hd
  rw [hk, Int.toNat_natCast] at ans
  have hlt : (2 : Nat) ^ k < 4096 := Nat.lt_of_lt_of_le (show 2 ^ k < 2 ^ s 0 from Nat.pow_lt_pow_right (by omega) (by omega)) hp
  have c1 := ct_le (okS s (s 1) 0) (2 ^ s 0)
  have z1 : ac = 0 ↔ fb_ct (okS s (s 1) 0) (2 ^ s 0) = 0 := by rw [hF.2.1, iI_lit 0, iI_eq (by omega) (by omega) (by omega) (by omega)]; omega
  unfold wth at ans
  rw [z1]
  refine ⟨fun c => ?_, fun c => ?_⟩
  · simp only [if_neg c] at ans
    rw [ep, iI_shl1 k (by omega), hS.2.1]
    refine sp_stairs hW hW.2.1 hlt hP fun f hf => ?_
    have c2 := ct_le (okS s (s 1) (2 ^ k)) (2 ^ s 0)
    have z2 : (iI (fb_ct (okS s (s 1) (2 ^ k)) (2 ^ s 0) : Nat) = 0) ↔ fb_ct (okS s (s 1) (2 ^ k)) (2 ^ s 0) = 0 := by rw [iI_lit 0, iI_eq (by omega) (by omega) (by omega) (by omega)]; omega
    rw [z2]
    refine ⟨fun d => ?_, fun d => ?_⟩
    · simp only [if_neg d] at ans
      refine sp_areaBelow (HS_stP hW (s 1) (2 ^ k)) hf ?_
      have q := ans (iI (fb_ct (okS s (s 1) (2 ^ k)) (2 ^ s 0) : Nat)) f
      rw [← iI_sub, ← hF.2.2.1] at q
      exact q
    · simp only [if_pos d] at ans
      rw [iI_m1]
      exact ans _ _
  · simp only [if_pos c] at ans
    exact ans _ _
theorem sr_worth {s : Nat → Nat} (hW : WF s) {p1 : Int32} {t_thrown : Int32} {t_allowedMany : Int32} {t_pointMany : Int32} {t_net : Nat → Int32} {t_joyAt : Nat → Int32} {t_pointAt : Nat → Int32} {t_pointGain : Nat → Int32} {t_pointJoy : Nat → Int32} {t_pointTimes : Nat → Int32} {Q : Int32 → Int32 → Int32 → Int32 → (Nat → Int32) → (Nat → Int32) → (Nat → Int32) → (Nat → Int32) → (Nat → Int32) → (Nat → Int32) → Prop} (hN : neP s t_net) (hQ : ∀ am pm ja net pa g j ti, neP s net → Q (if 0 ≤ p1.toInt ∧ p1.toInt < s 0 then iI (wth s p1.toInt.toNat) else 0) (if 0 ≤ p1.toInt ∧ p1.toInt < s 0 then 0 else 1) am pm net ja pa g j ti) : wp_X11_worth p1 t_thrown t_allowedMany t_pointMany t_net t_joyAt t_pointAt t_pointGain t_pointJoy t_pointTimes Q := by
  have hp := wf_pow hW
  have h12 := hW.1
  unfold wp_X11_worth
  refine sp_isItem hW hN (sp_passes ?_)
  by_cases h : 0 ≤ p1.toInt ∧ p1.toInt < s 0
  · rw [if_pos h]
    simp only [if_pos h] at hQ
    obtain ⟨k, hk⟩ : ∃ k : Nat, p1.toInt = k := ⟨p1.toInt.toNat, by omega⟩
    have ep : p1 = iI (k : Nat) := by rw [iI_of p1, hk]
    rw [hk, Int.toNat_natCast] at hQ
    have hi : vp_in 4 66 := by rw [vp_in_iff]; decide
    have e4 : (4 : Int32).toNatClampNeg = 4 := by decide
    have hlt : (2 : Nat) ^ k < 2 ^ s 0 := Nat.pow_lt_pow_right (by omega) (by omega)
    rw [e4]
    have hb : t_net 4 ||| ((1 : Int32) <<< (p1 &&& 31)) = iI ((s 4 ||| 2 ^ k : Nat) : Int) := by
      rw [ep, iI_shl1 k (by omega), hN.1 4 (by omega), iI_or]
    rw [hb]
    have hN2 : neP (su s 4 (s 4 ||| 2 ^ k)) (upd t_net 4 (iI ((s 4 ||| 2 ^ k : Nat) : Int))) := neP_su hN (by omega) (by omega) rfl
    have hW2 := WF_su4 hW hlt
    have c1 := ct_le (okS s (s 1) 0) (2 ^ s 0)
    have c2 := ct_le (okS s (s 1) (2 ^ k)) (2 ^ s 0)
    have ec : fb_ct (okS (su s 4 (s 4 ||| 2 ^ k)) (su s 4 (s 4 ||| 2 ^ k) 1) 0) (2 ^ su s 4 (s 4 ||| 2 ^ k) 0) = fb_ct (okS s (s 1) (2 ^ k)) (2 ^ s 0) := by
      rw [su_ne (show (1 : Nat) ≠ 4 by omega), su_ne (show (0 : Nat) ≠ 4 by omega)]
      exact ct_congr fun q _ => ok_su4
    have eh : HH (su s 4 (s 4 ||| 2 ^ k)) = HS s (s 1) (2 ^ k) := HH_su4
    unfold wth at hQ
    refine ⟨fun _ => sp_layP hW hN fun am pm ja pa g j ti hM hT => sp_areaNow hM.2.1 hM.2.2.2.2 ?_, fun z => absurd z (by decide)⟩
    have z1 : am ≤ 0 ↔ fb_ct (okS s (s 1) 0) (2 ^ s 0) = 0 := by rw [hM.1, iI_lit 0, iI_le (by omega) (by omega) (by omega) (by omega)]; omega
    rw [z1]
    refine ⟨fun c => ⟨hi, fun v hv => ⟨hi, hi, ?_⟩⟩, fun c => ⟨hi, fun v hv => ⟨hi, hi, ?_⟩⟩⟩
    · simp only [if_pos c] at hQ
      refine sp_layP hW2 hN2 fun am2 pm2 ja2 pa2 g2 j2 ti2 hM2 hT2 => ⟨hi, ?_⟩
      unfold wp_X11_worth_b83
      refine sp_areaNow hM2.2.1 hM2.2.2.2.2 ?_
      have a1 : AR (HH s) = 0 := AR0 c
      have a2 : AR (HS s (s 1) (2 ^ k)) = 0 := AR0 (ct_none fun q hq => by
        have := ct0 c q hq
        unfold okS at this ⊢
        rw [Nat.and_zero] at this
        simp only [decide_true, Bool.and_true] at this
        rw [this]
        rfl)
      rw [eh, a1, a2, iI_sub]
      exact hQ _ _ _ _ _ _ _ _ (neP_back hN (by omega) hv)
    · simp only [if_neg c] at hQ
      refine sp_layP hW2 hN2 fun am2 pm2 ja2 pa2 g2 j2 ti2 hM2 hT2 => ⟨hi, ?_⟩
      have z2 : am2 = 0 ↔ fb_ct (okS s (s 1) (2 ^ k)) (2 ^ s 0) = 0 := by rw [hM2.1, ec, iI_lit 0, iI_eq (by omega) (by omega) (by omega) (by omega)]; omega
      rw [z2]
      refine ⟨fun d => ?_, fun d => ?_⟩
      · simp only [if_neg d] at hQ
        unfold wp_X11_worth_b83
        refine sp_areaNow hM2.2.1 hM2.2.2.2.2 ?_
        rw [eh, iI_sub]
        exact hQ _ _ _ _ _ _ _ _ (neP_back hN (by omega) hv)
      · simp only [if_pos d] at hQ
        rw [iI_m1]
        exact hQ _ _ _ _ _ _ _ _ (neP_back hN (by omega) hv)
  · rw [if_neg h]
    simp only [if_neg h] at hQ
    exact ⟨fun z => absurd rfl z, fun _ => hQ _ _ _ _ _ _ _ _ hN⟩
