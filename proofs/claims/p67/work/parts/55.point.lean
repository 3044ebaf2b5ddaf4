/-! POINTS: every point has a choice -/
theorem ja_att {ok : Nat → Bool} {gn jn : Nat → Nat} : ∀ {m g : Nat}, ja ok gn jn m g ≠ -1 → ∃ q, q < m ∧ ok q = true ∧ gn q = g ∧ (jn q : Int) = ja ok gn jn m g
  | 0, _, h => absurd rfl h
  | m + 1, g, h => by
    simp only [ja] at h ⊢
    by_cases c : ok m = true ∧ g = gn m
    · rw [if_pos c] at h ⊢
      by_cases d : ja ok gn jn m g < (jn m : Int)
      · exact ⟨m, by omega, c.1, c.2.symm, by omega⟩
      · have e : ja ok gn jn m g ≠ -1 := by omega
        obtain ⟨q, h1, h2, h3, h4⟩ := ja_att e
        exact ⟨q, by omega, h2, h3, by omega⟩
    · rw [if_neg c] at h ⊢
      obtain ⟨q, h1, h2, h3, h4⟩ := ja_att h
      exact ⟨q, by omega, h2, h3, h4⟩
theorem stair_ne {f : Nat → Int} {g : Nat} (h : stair f g ≠ -1) : stair f g = f g := by
  unfold stair at h ⊢
  split
  · rfl
  · rename_i c; rw [if_neg c] at h; exact absurd rfl h
theorem tmF_pos {s : Nat → Nat} {cap : Nat} {h : Nat → Int} {n q : Nat} (hr : rf s cap q = 0) (hb : PB s h q = (n : Int)) : ∀ {m}, q < m → 0 < tmF s cap h m n
  | 0, hq => absurd hq (by omega)
  | m + 1, hq => by
    simp only [tmF]
    by_cases e : q = m
    · subst e
      rw [if_pos ⟨hr, hb⟩]
      omega
    · have := tmF_pos (s := s) (cap := cap) (h := h) hr hb (m := m) (by omega)
      split <;> omega
theorem tm_pos {s : Nat → Nat} {n : Nat} (hn : n < PN (HH s)) : 0 < tmF s (s 1) (HH s) (2 ^ s 0) n := by
  obtain ⟨h1, h2, h3⟩ := PG_spec hn
  have e := stair_ne (f := JA s (s 1) 0) (g := PG (HH s) n) h2
  have e2 : JA s (s 1) 0 (PG (HH s) n) ≠ -1 := by rw [← e]; exact h2
  obtain ⟨q, q1, q2, q3, q4⟩ := ja_att e2
  have q5 : rf s (s 1) q = 0 := by
    unfold okS at q2
    simp only [Bool.and_eq_true, decide_eq_true_eq] at q2
    exact q2.1
  refine tmF_pos q5 ?_ q1
  unfold PB
  rw [q3, if_pos (show HH s (PG (HH s) n) = (sm s 2 q (s 0) : Int) from by rw [q4]; exact e), h3]
theorem ch_lt {s : Nat → Nat} (n : Nat) : chF s (s 1) (HH s) (2 ^ s 0) n < 2 ^ s 0 := by
  have := Nat.two_pow_pos (s 0)
  rcases chF_lt (s := s) (cap := s 1) (h := HH s) (2 ^ s 0) n with h | h <;> omega
theorem lt_lt {s : Nat → Nat} (n : Nat) : ltF s (s 1) (HH s) (2 ^ s 0) n < 2 ^ s 0 := by
  have := Nat.two_pow_pos (s 0)
  rcases ltF_lt (s := s) (cap := s 1) (h := HH s) (2 ^ s 0) n with h | h <;> omega
abbrev CHo (s : Nat → Nat) (n : Nat) : Nat := chF s (s 1) (HH s) (2 ^ s 0) n
abbrev TIm (s : Nat → Nat) (n : Nat) : Nat := tmF s (s 1) (HH s) (2 ^ s 0) n
abbrev LIg (s : Nat → Nat) (n : Nat) : Nat := ltF s (s 1) (HH s) (2 ^ s 0) n
/-- what point n says of w -/
def ptv (s : Nat → Nat) (n w : Nat) : Int :=
  if w = 0 then (PG (HH s) n : Int) else if w = 1 then PJ (HH s) n else if w = 2 then (CHo s n : Int) else if w = 3 then (TIm s n : Int) else if w = 4 then (sm s 0 (CHo s n) (s 0) : Int) else if w = 5 then (if MK (HH s) n = 0 then 0 else 1) else (if MK (HH s) n = 2 then 1 else 0)
theorem sq_requirePoint {s : Nat → Nat} (hW : WF s) {hand : Int32} {p1 : Int32} {t_frontierFresh : Int32} {t_now_items : Int32} {t_now_capacity : Int32} {t_now_limit : Int32} {t_now_mustSet : Int32} {t_now_neverSet : Int32} {t_choices_sets : Int32} {t_choices_limit : Int32} {t_choices_mustSet : Int32} {t_choices_neverSet : Int32} {t_choices_weight : Nat → Int32} {t_now_weight : Nat → Int32} {t_choices_gain : Nat → Int32} {t_now_gain : Nat → Int32} {t_choices_joy : Nat → Int32} {t_now_joy : Nat → Int32} {t_choices_barred : Nat → Int32} {t_now_bars : Nat → Int32} {t_choices_needed : Nat → Int32} {t_now_needs : Nat → Int32} {t_stairs_allowedCount : Int32} {t_stairs_joyAt : Nat → Int32} {t_frontier_size : Int32} {t_frontier_vertexCount : Int32} {t_frontier_allowedCount : Int32} {t_frontier_areaBelow : Int32} {t_frontier_pointAt : Nat → Int32} {t_frontier_gain : Nat → Int32} {t_frontier_joy : Nat → Int32} {t_frontier_choice : Nat → Int32} {t_frontier_times : Nat → Int32} {t_frontier_light : Nat → Int32} {t_frontier_mark : Nat → Int32} {t_frontier_vertexPoint : Nat → Int32} {Q : Int32 → Int32 → Int32 → Int32 → Int32 → (Nat → Int32) → (Nat → Int32) → (Nat → Int32) → (Nat → Int32) → (Nat → Int32) → Int32 → (Nat → Int32) → Int32 → Int32 → Int32 → Int32 → (Nat → Int32) → (Nat → Int32) → (Nat → Int32) → (Nat → Int32) → (Nat → Int32) → (Nat → Int32) → (Nat → Int32) → (Nat → Int32) → Prop} {QX : String → Int32 → Int32 → Int32 → Int32 → Int32 → (Nat → Int32) → (Nat → Int32) → (Nat → Int32) → (Nat → Int32) → (Nat → Int32) → Int32 → (Nat → Int32) → Int32 → Int32 → Int32 → Int32 → (Nat → Int32) → (Nat → Int32) → (Nat → Int32) → (Nat → Int32) → (Nat → Int32) → (Nat → Int32) → (Nat → Int32) → (Nat → Int32) → Prop} (hS : suP s t_now_items t_now_capacity t_now_limit t_now_mustSet t_now_neverSet hand t_now_weight t_now_gain t_now_joy t_now_bars t_now_needs) (hD : dkP s t_frontierFresh t_choices_sets t_choices_limit t_choices_mustSet t_choices_neverSet t_choices_weight t_choices_gain t_choices_joy t_choices_barred t_choices_needed t_frontier_size t_frontier_vertexCount t_frontier_allowedCount t_frontier_areaBelow t_frontier_pointAt t_frontier_gain t_frontier_joy t_frontier_choice t_frontier_times t_frontier_light t_frontier_mark t_frontier_vertexPoint) (hQ : 0 ≤ p1.toInt ∧ p1.toInt < (PN (HH s) : Int) → ∀ sets lim must nev cw cg cj cb cn sac sja size vc ac area pa g j ch ti li mk vp, chP s sets lim must nev cw cg cj cb cn → frP s size vc ac area pa g j ch ti li mk vp → Q 1 sets lim must nev cw cg cj cb cn sac sja size vc ac area pa g j ch ti li mk vp) (hX : ¬ (0 ≤ p1.toInt ∧ p1.toInt < (PN (HH s) : Int)) → DQ s (QX "java/lang/IndexOutOfBoundsException")) : wp_X10_requirePoint p1 t_frontierFresh t_now_items t_now_capacity t_now_limit t_now_mustSet t_now_neverSet t_choices_sets t_choices_limit t_choices_mustSet t_choices_neverSet t_choices_weight t_now_weight t_choices_gain t_now_gain t_choices_joy t_now_joy t_choices_barred t_now_bars t_choices_needed t_now_needs t_stairs_allowedCount t_stairs_joyAt t_frontier_size t_frontier_vertexCount t_frontier_allowedCount t_frontier_areaBelow t_frontier_pointAt t_frontier_gain t_frontier_joy t_frontier_choice t_frontier_times t_frontier_light t_frontier_mark t_frontier_vertexPoint Q QX := by
  have hN := PN_le (HH s)
  unfold wp_X10_requirePoint
  refine sp_refresh hW hS hD fun sets lim must nev cw cg cj cb cn sac sja size vc ac area pa g j ch ti li mk vp hP hF => ?_
  have e2 : size.toInt = PN (HH s) := by rw [hF.1, iI_toInt (by omega) (by omega)]
  rw [i_lt0, i_lt, e2]
  exact ⟨fun c => hX (by omega) 1 sets lim must nev cw cg cj cb cn sac sja size vc ac area pa g j ch ti li mk vp (dkP_1 hP hF), fun c => ⟨fun c2 => hQ (by omega) _ _ _ _ _ _ _ _ _ _ _ _ _ _ _ _ _ _ _ _ _ _ _ hP hF, fun c2 => hX (by omega) 1 sets lim must nev cw cg cj cb cn sac sja size vc ac area pa g j ch ti li mk vp (dkP_1 hP hF)⟩⟩
theorem sq_lightest {s : Nat → Nat} (hW : WF s) {hand : Int32} {p1 : Int32} {t_frontierFresh : Int32} {t_now_items : Int32} {t_now_capacity : Int32} {t_now_limit : Int32} {t_now_mustSet : Int32} {t_now_neverSet : Int32} {t_choices_sets : Int32} {t_choices_limit : Int32} {t_choices_mustSet : Int32} {t_choices_neverSet : Int32} {t_choices_weight : Nat → Int32} {t_now_weight : Nat → Int32} {t_choices_gain : Nat → Int32} {t_now_gain : Nat → Int32} {t_choices_joy : Nat → Int32} {t_now_joy : Nat → Int32} {t_choices_barred : Nat → Int32} {t_now_bars : Nat → Int32} {t_choices_needed : Nat → Int32} {t_now_needs : Nat → Int32} {t_stairs_allowedCount : Int32} {t_stairs_joyAt : Nat → Int32} {t_frontier_size : Int32} {t_frontier_vertexCount : Int32} {t_frontier_allowedCount : Int32} {t_frontier_areaBelow : Int32} {t_frontier_pointAt : Nat → Int32} {t_frontier_gain : Nat → Int32} {t_frontier_joy : Nat → Int32} {t_frontier_choice : Nat → Int32} {t_frontier_times : Nat → Int32} {t_frontier_light : Nat → Int32} {t_frontier_mark : Nat → Int32} {t_frontier_vertexPoint : Nat → Int32} {Q : Int32 → Int32 → Int32 → Int32 → Int32 → Int32 → (Nat → Int32) → (Nat → Int32) → (Nat → Int32) → (Nat → Int32) → (Nat → Int32) → Int32 → (Nat → Int32) → Int32 → Int32 → Int32 → Int32 → (Nat → Int32) → (Nat → Int32) → (Nat → Int32) → (Nat → Int32) → (Nat → Int32) → (Nat → Int32) → (Nat → Int32) → (Nat → Int32) → Prop} {QX : String → Int32 → Int32 → Int32 → Int32 → Int32 → (Nat → Int32) → (Nat → Int32) → (Nat → Int32) → (Nat → Int32) → (Nat → Int32) → Int32 → (Nat → Int32) → Int32 → Int32 → Int32 → Int32 → (Nat → Int32) → (Nat → Int32) → (Nat → Int32) → (Nat → Int32) → (Nat → Int32) → (Nat → Int32) → (Nat → Int32) → (Nat → Int32) → Prop} (hS : suP s t_now_items t_now_capacity t_now_limit t_now_mustSet t_now_neverSet hand t_now_weight t_now_gain t_now_joy t_now_bars t_now_needs) (hD : dkP s t_frontierFresh t_choices_sets t_choices_limit t_choices_mustSet t_choices_neverSet t_choices_weight t_choices_gain t_choices_joy t_choices_barred t_choices_needed t_frontier_size t_frontier_vertexCount t_frontier_allowedCount t_frontier_areaBelow t_frontier_pointAt t_frontier_gain t_frontier_joy t_frontier_choice t_frontier_times t_frontier_light t_frontier_mark t_frontier_vertexPoint) (hQ : 0 ≤ p1.toInt ∧ p1.toInt < (PN (HH s) : Int) → DQ s (Q (iI (LIg s p1.toInt.toNat : Nat)))) (hX : ¬ (0 ≤ p1.toInt ∧ p1.toInt < (PN (HH s) : Int)) → DQ s (QX "java/lang/IndexOutOfBoundsException")) : wp_X10_lightest p1 t_frontierFresh t_now_items t_now_capacity t_now_limit t_now_mustSet t_now_neverSet t_choices_sets t_choices_limit t_choices_mustSet t_choices_neverSet t_choices_weight t_now_weight t_choices_gain t_now_gain t_choices_joy t_now_joy t_choices_barred t_now_bars t_choices_needed t_now_needs t_stairs_allowedCount t_stairs_joyAt t_frontier_size t_frontier_vertexCount t_frontier_allowedCount t_frontier_areaBelow t_frontier_pointAt t_frontier_gain t_frontier_joy t_frontier_choice t_frontier_times t_frontier_light t_frontier_mark t_frontier_vertexPoint Q QX := by
  have hN := PN_le (HH s)
  unfold wp_X10_lightest
  refine sq_requirePoint hW hS hD (fun h sets lim must nev cw cg cj cb cn sac sja size vc ac area pa g j ch ti li mk vp hP hF => ⟨by rw [vp_in_iff]; omega, ?_⟩) (fun h ff sets lim must nev cw cg cj cb cn sac sja size vc ac area pa g j ch ti li mk vp hd => hX h _ _ _ _ _ _ _ _ _ _ _ _ _ _ _ _ _ _ _ _ _ _ _ _ hd)
  have hl := hF.2.2.2.2.2.1.2.2 p1.toInt.toNat (by omega) (tm_pos (by omega))
  rw [show p1.toNatClampNeg = p1.toInt.toNat from rfl, hl]
  exact hQ h 1 sets lim must nev cw cg cj cb cn sac sja size vc ac area pa g j ch ti li mk vp (dkP_1 hP hF)
theorem i_eqv {p : Int32} {v : Int32} {k : Int} (hv : v.toInt = k) : p = v ↔ p.toInt = k := by rw [← hv]; exact Int32.toInt_inj.symm
theorem sq_point {s : Nat → Nat} (hW : WF s) {hand : Int32} {p1 : Int32} {p2 : Int32} {t_frontierFresh : Int32} {t_now_items : Int32} {t_now_capacity : Int32} {t_now_limit : Int32} {t_now_mustSet : Int32} {t_now_neverSet : Int32} {t_choices_sets : Int32} {t_choices_limit : Int32} {t_choices_mustSet : Int32} {t_choices_neverSet : Int32} {t_choices_weight : Nat → Int32} {t_now_weight : Nat → Int32} {t_choices_gain : Nat → Int32} {t_now_gain : Nat → Int32} {t_choices_joy : Nat → Int32} {t_now_joy : Nat → Int32} {t_choices_barred : Nat → Int32} {t_now_bars : Nat → Int32} {t_choices_needed : Nat → Int32} {t_now_needs : Nat → Int32} {t_stairs_allowedCount : Int32} {t_stairs_joyAt : Nat → Int32} {t_frontier_size : Int32} {t_frontier_vertexCount : Int32} {t_frontier_allowedCount : Int32} {t_frontier_areaBelow : Int32} {t_frontier_pointAt : Nat → Int32} {t_frontier_gain : Nat → Int32} {t_frontier_joy : Nat → Int32} {t_frontier_choice : Nat → Int32} {t_frontier_times : Nat → Int32} {t_frontier_light : Nat → Int32} {t_frontier_mark : Nat → Int32} {t_frontier_vertexPoint : Nat → Int32} {Q : Int32 → Int32 → Int32 → Int32 → Int32 → Int32 → (Nat → Int32) → (Nat → Int32) → (Nat → Int32) → (Nat → Int32) → (Nat → Int32) → Int32 → (Nat → Int32) → Int32 → Int32 → Int32 → Int32 → (Nat → Int32) → (Nat → Int32) → (Nat → Int32) → (Nat → Int32) → (Nat → Int32) → (Nat → Int32) → (Nat → Int32) → (Nat → Int32) → Prop} {QX : String → Int32 → Int32 → Int32 → Int32 → Int32 → (Nat → Int32) → (Nat → Int32) → (Nat → Int32) → (Nat → Int32) → (Nat → Int32) → Int32 → (Nat → Int32) → Int32 → Int32 → Int32 → Int32 → (Nat → Int32) → (Nat → Int32) → (Nat → Int32) → (Nat → Int32) → (Nat → Int32) → (Nat → Int32) → (Nat → Int32) → (Nat → Int32) → Prop} (hS : suP s t_now_items t_now_capacity t_now_limit t_now_mustSet t_now_neverSet hand t_now_weight t_now_gain t_now_joy t_now_bars t_now_needs) (hD : dkP s t_frontierFresh t_choices_sets t_choices_limit t_choices_mustSet t_choices_neverSet t_choices_weight t_choices_gain t_choices_joy t_choices_barred t_choices_needed t_frontier_size t_frontier_vertexCount t_frontier_allowedCount t_frontier_areaBelow t_frontier_pointAt t_frontier_gain t_frontier_joy t_frontier_choice t_frontier_times t_frontier_light t_frontier_mark t_frontier_vertexPoint) (hQ : 0 ≤ p1.toInt ∧ p1.toInt < (PN (HH s) : Int) → 0 ≤ p2.toInt ∧ p2.toInt ≤ 6 → DQ s (Q (iI (ptv s p1.toInt.toNat p2.toInt.toNat)))) (hX1 : ¬ (0 ≤ p1.toInt ∧ p1.toInt < (PN (HH s) : Int)) → DQ s (QX "java/lang/IndexOutOfBoundsException")) (hX2 : 0 ≤ p1.toInt ∧ p1.toInt < (PN (HH s) : Int) → ¬ (0 ≤ p2.toInt ∧ p2.toInt ≤ 6) → DQ s (QX "java/lang/IllegalArgumentException")) : wp_X10_point p1 p2 t_frontierFresh t_now_items t_now_capacity t_now_limit t_now_mustSet t_now_neverSet t_choices_sets t_choices_limit t_choices_mustSet t_choices_neverSet t_choices_weight t_now_weight t_choices_gain t_now_gain t_choices_joy t_now_joy t_choices_barred t_now_bars t_choices_needed t_now_needs t_stairs_allowedCount t_stairs_joyAt t_frontier_size t_frontier_vertexCount t_frontier_allowedCount t_frontier_areaBelow t_frontier_pointAt t_frontier_gain t_frontier_joy t_frontier_choice t_frontier_times t_frontier_light t_frontier_mark t_frontier_vertexPoint Q QX := by
  have hN := PN_le (HH s)
  have hp := wf_pow hW
  unfold wp_X10_point
  refine sq_requirePoint hW hS hD (fun h sets lim must nev cw cg cj cb cn sac sja size vc ac area pa g j ch ti li mk vp hP hF => sp_reqWhat (k := 6) rfl (fun h2 => ?_) (fun h2 => hX2 h h2 1 sets lim must nev cw cg cj cb cn sac sja size vc ac area pa g j ch ti li mk vp (dkP_1 hP hF))) (fun h ff sets lim must nev cw cg cj cb cn sac sja size vc ac area pa g j ch ti li mk vp hd => hX1 h _ _ _ _ _ _ _ _ _ _ _ _ _ _ _ _ _ _ _ _ _ _ _ _ hd)
  have hd := dkP_1 hP hF
  obtain ⟨n, hn⟩ : ∃ n : Nat, p1.toInt = n := ⟨p1.toInt.toNat, by omega⟩
  have hcl : p1.toNatClampNeg = n := by show p1.toInt.toNat = n; omega
  have hin : vp_in p1 1189 := by rw [vp_in_iff]; omega
  obtain ⟨k, hk⟩ : ∃ k : Nat, p2.toInt = k := ⟨p2.toInt.toNat, by omega⟩
  have ans := hQ h h2 1 sets lim must nev cw cg cj cb cn sac sja size vc ac area pa g j ch ti li mk vp hd
  obtain ⟨-, -, -, -, hG, hC, hM, -⟩ := hF
  have ht := tm_pos (s := s) (n := n) (by omega)
  have hc := hC.2.1 n (by omega) ht
  have hcl2 := ch_lt (s := s) n
  rw [hcl, hG.1 n (by omega), hG.2 n (by omega), hc, hC.1 n (by omega), hM n (by omega), iI_clN (by omega)]
  rw [hP.2.2.2.2.1 _ hcl2]
  have hM2 := MKs_le (HH s) (VC (HH s)) n
  have hM3 : MK (HH s) n ≤ 2 := hM2
  rw [hn, hk, Int.toNat_natCast, Int.toNat_natCast] at ans
  have one : (iI (MK (HH s) n : Nat) < 1) ↔ MK (HH s) n = 0 := by rw [iI_lit 1, iI_lt (by omega) (by omega) (by omega) (by omega)]; omega
  have two : (iI (MK (HH s) n : Nat) = 2) ↔ MK (HH s) n = 2 := by rw [iI_lit 2, iI_eq (by omega) (by omega) (by omega) (by omega)]; omega
  rw [one, two, i_eqv (p := p2) (v := 0) (k := 0) rfl, i_eqv (p := p2) (v := 1) (k := 1) rfl, i_eqv (p := p2) (v := 2) (k := 2) rfl, i_eqv (p := p2) (v := 3) (k := 3) rfl, i_eqv (p := p2) (v := 4) (k := 4) rfl, i_eqv (p := p2) (v := 5) (k := 5) rfl, hk]
  have a0 : (1 : Int32) = iI 1 := iI_lit 1
  have a1 : (0 : Int32) = iI 0 := iI_lit 0
  refine ⟨fun c => ⟨hin, ?_⟩, fun c => ⟨hin, ?_⟩, fun c => ⟨hin, ?_⟩, fun c => ⟨hin, ?_⟩, fun c => ⟨hin, in_lit (by omega) (by omega), ?_⟩, fun c => ⟨hin, fun d => ?_, fun d => ?_⟩, fun c0 c1 c2 c3 c4 c5 => ⟨hin, fun d => ?_, fun d => ?_⟩⟩
  · rw [show k = 0 by omega] at ans; exact ans
  · rw [show k = 1 by omega] at ans; exact ans
  · rw [show k = 2 by omega] at ans; exact ans
  · rw [show k = 3 by omega] at ans; exact ans
  · rw [show k = 4 by omega] at ans; exact ans
  · rw [show k = 5 by omega, show ptv s n 5 = if MK (HH s) n = 0 then 0 else 1 from rfl, if_pos d, ← a1] at ans; exact ans
  · rw [show k = 5 by omega, show ptv s n 5 = if MK (HH s) n = 0 then 0 else 1 from rfl, if_neg d, ← a0] at ans; exact ans
  · rw [show k = 6 by omega, show ptv s n 6 = if MK (HH s) n = 2 then 1 else 0 from rfl, if_neg d, ← a1] at ans; exact ans
  · rw [show k = 6 by omega, show ptv s n 6 = if MK (HH s) n = 2 then 1 else 0 from rfl, if_pos d, ← a0] at ans; exact ans
