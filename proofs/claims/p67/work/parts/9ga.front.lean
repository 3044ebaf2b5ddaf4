/-! THE LAW'S POINTS ARE THE CLASS'S -/
section
variable {s : Nat → Nat} {M : Nat} {G J : Nat → Nat} {a13 a19 a26 a33 a40 : Nat → Int32}
/-- pair m beats pair n -/
abbrev btN (G J : Nat → Nat) (m n : Nat) : Prop := bt (G m : Nat) (J m : Nat) (G n : Nat) (J n : Nat)
theorem PQ_rep (h : PQ s (2 ^ s 0) M G J a13 a19 a26 a33 a40) {n : Nat} (hn : n < M) : ∃ r, okQ s r ∧ sm s 1 r (s 0) = G n ∧ sm s 2 r (s 0) = J n := by
  obtain ⟨r, hr, h1, h2, h3⟩ := gT_pos (h.2.1 n hn).2.2.2.2.2.2
  exact ⟨r, ⟨hr, h1⟩, h2, h3⟩
theorem PQ_un (hW : WF s) (h : PQ s (2 ^ s 0) M G J a13 a19 a26 a33 a40) {n : Nat} (hn : n < M) : (∀ m, m < M → ¬ btN G J m n) ↔ HH s (G n) = (J n : Int) := by
  obtain ⟨r, hr, e1, e2⟩ := PQ_rep h hn
  constructor
  · intro a
    have := HH_un hW hr fun p hp z => by
      obtain ⟨m, hm, f1, f2⟩ := h.2.2.2.1 p hp.1 hp.2
      refine a m hm ?_
      unfold btS at z
      rw [f1, f2, e1, e2] at z
      exact z
    rw [e1, e2] at this
    exact this
  · intro a m hm z
    obtain ⟨p, hp, f1, f2⟩ := PQ_rep h hm
    refine HH_nb (q := r) hW (by rw [e1, e2]; exact a) hp ?_
    unfold btS
    rw [f1, f2, e1, e2]
    exact z
theorem PQ_pt (hW : WF s) (h : PQ s (2 ^ s 0) M G J a13 a19 a26 a33 a40) {g : Nat} (hg : HH s g ≠ -1) : ∃ n, n < M ∧ G n = g ∧ (J n : Int) = HH s g := by
  obtain ⟨q, hq, e1, e2⟩ := HH_at hW hg
  obtain ⟨n, hn, f1, f2⟩ := h.2.2.2.1 q hq.1 hq.2
  exact ⟨n, hn, by omega, by omega⟩
theorem HH_high (hW : WF s) (h7 : s 0 ≤ 7) {g : Nat} (hg : 900 ≤ g) : HH s g = -1 := by
  refine Classical.byContradiction fun c => ?_
  obtain ⟨q, hq, e1, e2⟩ := HH_at hW c
  have := sm_bd7 hW (w := 1) (by omega) q (s 0) (Nat.le_refl _)
  omega
theorem ar_900 (hW : WF s) (h7 : s 0 ≤ 7) : ∀ m, PI (HH s) (900 + m) = PI (HH s) 900 ∧ arA (HH s) (900 + m) = arA (HH s) 900
  | 0 => ⟨rfl, rfl⟩
  | m + 1 => by
    obtain ⟨a, b⟩ := ar_900 hW h7 m
    have c := HH_high hW h7 (g := 900 + m) (by omega)
    refine ⟨?_, ?_⟩
    · rw [← Nat.add_assoc, PI_skip c]; exact a
    · rw [← Nat.add_assoc, arA, if_pos c]; exact b
theorem PB_pr (hW : WF s) {n g : Nat} (hn : G n = g) (hj : HH s g = (J n : Int)) (hg : g < 1189) : ∀ r, (rf s (s 1) r = 0 ∧ PB s (HH s) r = ((PI (HH s) g : Nat) : Int)) ↔ prS s (G n) (J n) r := by
  intro r
  have b : sm s 1 r (s 0) ≤ 1188 := sm_bd hW (by omega) r
  constructor
  · intro ⟨a, c⟩
    unfold PB at c
    by_cases e : HH s (sm s 1 r (s 0)) = (sm s 2 r (s 0) : Int)
    · rw [if_pos e] at c
      have i1 := PG_PI (h := HH s) (g := g) hg (by omega)
      have i2 := PG_PI (h := HH s) (g := sm s 1 r (s 0)) (by omega) (by omega)
      have c2 : PI (HH s) (sm s 1 r (s 0)) = PI (HH s) g := by omega
      rw [c2, i1] at i2
      rw [← i2] at e
      exact ⟨a, by omega, by omega⟩
    · rw [if_neg e] at c
      omega
  · intro ⟨a, c, e⟩
    refine ⟨a, ?_⟩
    unfold PB
    rw [c, hn, e, hj, if_pos rfl]
variable {nn : Nat} {by_ : Nat → Int} {cc pp : Int} {Q : Int32 → DT → Prop}
theorem sL_338 {x1 x2 x9 x10 x11 x12 x13 x14 : Int32} {d : DT} {q : Nat} (h : PQ s q M G J a13 a19 a26 a33 a40) (hM : M ≤ 128) {n : Nat} (hn : n < M) {k387 : Int32 → Prop} (hy : (∀ m, m < M → ¬ btN G J m n) → k387 1) (hx : ¬ (∀ m, m < M → ¬ btN G J m n) → k387 0) : ∀ (f m : Nat), m + f = M → (∀ i, i < m → ¬ btN G J i n) → wp_L_points_L338 x1 x2 (iI (M : Nat)) x9 x10 x11 x12 x13 x14 (iI (n : Nat)) d a13 a19 a26 a33 a40 k387 Q (f + 2) 1 (iI (m : Nat)) := by
  obtain ⟨⟨n1, n2⟩, n3, n4, -⟩ := h.2.1 n hn
  intro f
  induction f with
  | zero =>
    intro m hm ha
    unfold wp_L_points_L338
    obtain rfl : m = M := by omega
    exact ⟨fun _ => hy ha, fun z => absurd (Int32.le_refl _) z⟩
  | succ f ih =>
    intro m hm ha
    obtain ⟨⟨m1, m2⟩, m3, m4, -⟩ := h.2.1 m (by omega)
    have i1 : vp_in (iI (m : Nat)) 256 := in_lit (by omega) (by omega)
    have i2 : vp_in (iI (n : Nat)) 256 := in_lit (by omega) (by omega)
    unfold wp_L_points_L338
    rw [iI_le (by omega) (by omega) (by omega) (by omega), iI_clN (by omega), iI_clN (by omega), m3, m4, n3, n4, iI_succ]
    refine ⟨fun z => by omega, fun _ => ⟨fun z => absurd z (by decide), fun _ => ⟨i1, i1, i2, i2, sL_beats (by omega) (by omega) (by omega) (by omega) (fun b => ⟨fun _ => ?_, fun z => absurd z (by decide)⟩) (fun b => ⟨fun z => absurd rfl z, fun _ => ih (m + 1) (by omega) fun i hi => ?_⟩)⟩⟩⟩
    · have nk := hx fun z => z m (by omega) b
      unfold wp_L_points_L338
      exact ⟨fun _ => nk, fun _ => ⟨fun _ => nk, fun z => absurd rfl z⟩⟩
    · by_cases e : i = m
      · subst e; exact b
      · exact ha i (by omega)
theorem sL_313b {x1 x2 x9 : Int32} (hW : WF s) (h : PQ s (2 ^ s 0) M G J a13 a19 a26 a33 a40) (hM : M ≤ 128) {g : Nat} (hg : g < 900) {k527 : Int32 → Int32 → Int32 → Int32 → DT → Prop} {y10 y11 y12 y13 : Int32} (hk : ∀ d, IV s nn by_ cc pp d → k527 y10 y11 y12 y13 d) : ∀ (f n : Nat) (d : DT), n + f = M → IV s nn by_ cc pp d → (∃ i, i < n ∧ G i = g ∧ (J i : Int) = HH s g) → wp_L_points_L313 x1 x2 (iI (M : Nat)) x9 (iI (g : Nat)) a13 a19 a26 a33 a40 k527 Q (f + 1) y10 y11 y12 y13 (iI (n : Nat)) d := by
  intro f
  induction f with
  | zero =>
    intro n d hn hI hx
    unfold wp_L_points_L313
    obtain rfl : n = M := by omega
    exact ⟨fun _ => hk d hI, fun z => absurd (Int32.le_refl _) z⟩
  | succ f ih =>
    intro n d hn hI hx
    obtain ⟨⟨n1, n2⟩, n3, n4, -⟩ := h.2.1 n (by omega)
    have next := ih (n + 1) d (by omega) hI (by obtain ⟨i, a, b⟩ := hx; exact ⟨i, by omega, b⟩)
    unfold wp_L_points_L313
    rw [iI_le (by omega) (by omega) (by omega) (by omega), iI_clN (by omega), n3, iI_succ, iI_eq (by omega) (by omega) (by omega) (by omega)]
    refine ⟨fun z => by omega, fun _ => ⟨in_lit (by omega) (by omega), fun z => ⟨M + 2, ?_⟩, fun _ => next⟩⟩
    refine sL_338 h hM (by omega) (fun y => ?_) (fun y => ⟨fun z => absurd rfl z, fun _ => next⟩) M 0 (by omega) (fun i hi => absurd hi (Nat.not_lt_zero _))
    have e := (PQ_un hW h (n := n) (by omega)).mp y
    obtain ⟨i, a, b, c⟩ := hx
    have en : G n = g := by omega
    rw [en] at e
    exact absurd ⟨by omega, by omega⟩ (h.2.2.1 i n a (by omega))
theorem sL_313 {x1 x2 : Int32} (hW : WF s) (h7 : s 0 ≤ 7) (h : PQ s (2 ^ s 0) M G J a13 a19 a26 a33 a40) (hM : M ≤ 128) {g : Nat} (hg : g < 900) {k527 : Int32 → Int32 → Int32 → Int32 → DT → Prop} (hk : ∀ d, IV s nn by_ cc pp d → k527 (iI (PI (HH s) (g + 1) : Nat)) (iI (PI (HH s) (g + 1) : Nat)) (iI (arA (HH s) (g + 1))) (iI (arB (HH s) (g + 1))) d) : ∀ (f n : Nat) (d : DT), n + f = M → IV s nn by_ cc pp d → (∀ i, i < n → ¬ (G i = g ∧ (J i : Int) = HH s g)) → wp_L_points_L313 x1 x2 (iI (M : Nat)) (iI (PN (HH s) : Nat)) (iI (g : Nat)) a13 a19 a26 a33 a40 k527 Q (f + 1) (iI (PI (HH s) g : Nat)) (iI (PI (HH s) g : Nat)) (iI (arA (HH s) g)) (iI (arB (HH s) g)) (iI (n : Nat)) d := by
  have hpw := p2_7 h7
  have hPN := PN_le (HH s)
  intro f
  induction f with
  | zero =>
    intro n d hn hI hno
    unfold wp_L_points_L313
    obtain rfl : n = M := by omega
    have c : HH s g = -1 := by
      refine Classical.byContradiction fun c => ?_
      obtain ⟨n, hn, e⟩ := PQ_pt hW h c
      exact hno n hn e
    have := hk d hI
    rw [PI_skip c] at this
    simp only [arA, arB] at this
    rw [if_pos c, if_pos c] at this
    exact ⟨fun _ => this, fun z => absurd (Int32.le_refl _) z⟩
  | succ f ih =>
    intro n d hn hI hno
    obtain ⟨⟨n1, n2⟩, n3, n4, n5, n6, n7, n8⟩ := h.2.1 n (by omega)
    have next : ¬ (G n = g ∧ (J n : Int) = HH s g) → wp_L_points_L313 x1 x2 (iI (M : Nat)) (iI (PN (HH s) : Nat)) (iI (g : Nat)) a13 a19 a26 a33 a40 k527 Q (f + 1) (iI (PI (HH s) g : Nat)) (iI (PI (HH s) g : Nat)) (iI (arA (HH s) g)) (iI (arB (HH s) g)) (iI ((n + 1 : Nat) : Int)) d := fun z => ih (n + 1) d (by omega) hI fun i hi => by
      by_cases e : i = n
      · subst e; exact z
      · exact hno i (by omega)
    unfold wp_L_points_L313
    rw [iI_le (by omega) (by omega) (by omega) (by omega), iI_clN (by omega), n3, n4, iI_eq (by omega) (by omega) (by omega) (by omega), iI_succ n]
    refine ⟨fun z => by omega, fun _ => ⟨in_lit (by omega) (by omega), fun z => ⟨M + 2, ?_⟩, fun z => next (fun y => by omega)⟩⟩
    have en : G n = g := by omega
    refine sL_338 h hM (by omega) (fun y => ?_) (fun y => ⟨fun z => absurd rfl z, fun _ => next fun e => y ((PQ_un hW h (by omega)).mpr (by rw [en]; omega))⟩) M 0 (by omega) (fun i hi => absurd hi (Nat.not_lt_zero _))
    have e := (PQ_un hW h (n := n) (by omega)).mp y
    rw [en] at e
    have c : HH s g ≠ -1 := by omega
    have hlt := PI_lt_N (h := HH s) (a := g) (by omega) c
    have eg := PG_PI (h := HH s) (g := g) (by omega) c
    have ej : PJ (HH s) (PI (HH s) g) = (J n : Int) := by unfold PJ; rw [eg, e]
    obtain ⟨t1, t2, t3⟩ := g_same (PB_pr hW en e (by omega)) (2 ^ s 0)
    have lC := gC_lt (s := s) (g := G n) (j := J n) (2 ^ s 0)
    have lp := Nat.two_pow_pos (s 0)
    have i1 : vp_in (iI (n : Nat)) 256 := in_lit (by omega) (by omega)
    refine ⟨fun _ => ⟨fun z => ?_, fun _ => sN_point (k := PI (HH s) g) (w := 0) hI hlt (by omega) fun d2 hI2 => ?_⟩, fun z => absurd z (by decide)⟩
    · rw [iI_le (by omega) (by omega) (by omega) (by omega)] at z
      omega
    have v0 : ptv s (PI (HH s) g) 0 = (g : Int) := by show ((PG (HH s) (PI (HH s) g) : Nat) : Int) = _; rw [eg]
    have v1 : ptv s (PI (HH s) g) 1 = (J n : Int) := ej
    have v2 : ptv s (PI (HH s) g) 2 = ((gC s (G n) (J n) (2 ^ s 0) : Nat) : Int) := by show ((chF s (s 1) (HH s) (2 ^ s 0) (PI (HH s) g) : Nat) : Int) = _; rw [t2]
    have v3 : ptv s (PI (HH s) g) 3 = ((gT s (G n) (J n) (2 ^ s 0) : Nat) : Int) := by show ((tmF s (s 1) (HH s) (2 ^ s 0) (PI (HH s) g) : Nat) : Int) = _; rw [t1]
    have v4 : ptv s (PI (HH s) g) 4 = ((sm s 0 (gC s (G n) (J n) (2 ^ s 0)) (s 0) : Nat) : Int) := by show ((sm s 0 (chF s (s 1) (HH s) (2 ^ s 0) (PI (HH s) g)) (s 0) : Nat) : Int) = _; rw [t2]
    have v5 : LIg s (PI (HH s) g) = gL s (G n) (J n) (2 ^ s 0) := t3
    rw [v0]
    refine ⟨fun z => absurd rfl z, fun _ => sN_point (k := PI (HH s) g) (w := 1) hI2 hlt (by omega) fun d3 hI3 => ⟨i1, ?_⟩⟩
    rw [v1]
    refine ⟨fun z => absurd rfl z, fun _ => sN_point (k := PI (HH s) g) (w := 2) hI3 hlt (by omega) fun d4 hI4 => ⟨i1, ?_⟩⟩
    rw [v2, n5]
    refine ⟨fun z => absurd rfl z, fun _ => sN_point (k := PI (HH s) g) (w := 3) hI4 hlt (by omega) fun d5 hI5 => ⟨i1, ?_⟩⟩
    rw [v3, n7]
    refine ⟨fun z => absurd rfl z, fun _ => sN_point (k := PI (HH s) g) (w := 4) hI5 hlt (by omega) fun d6 hI6 => ⟨i1, sL_sum (w := 0) hI6 (by omega) (by omega) ?_⟩⟩
    rw [v4]
    refine ⟨fun z => absurd rfl z, fun _ => sN_lightest (k := PI (HH s) g) hI6 hlt fun d7 hI7 => ⟨i1, ?_⟩⟩
    rw [v5, n6]
    refine ⟨fun _ => ⟨i1, fun v hv => ?_⟩, fun z => absurd rfl z⟩
    have ea : v = iI (arA (HH s) (g + 1)) := by
      rw [hv, iI_sub, iI_mul, iI_add]
      simp only [arA]
      rw [if_neg c, e]
    have eb : iI (g : Nat) = iI (arB (HH s) (g + 1)) := by
      simp only [arB]
      rw [if_neg c]
    have ep : iI (PI (HH s) g : Nat) + 1 = iI (PI (HH s) (g + 1) : Nat) := by rw [iI_succ, PI_succ c]
    rw [ea, ep]
    have := sL_313b (x1 := x1) (x2 := x2) (x9 := iI (PN (HH s) : Nat)) (Q := Q) hW h hM hg hk f (n + 1) d7 (by omega) hI7 ⟨n, by omega, en, e.symm⟩
    rw [← eb] at this
    exact this
theorem sL_302 {x1 x2 : Int32} (hW : WF s) (h7 : s 0 ≤ 7) (h : PQ s (2 ^ s 0) M G J a13 a19 a26 a33 a40) {k533 : Int32 → Int32 → DT → Prop} (hk : ∀ d, IV s nn by_ cc pp d → k533 (iI (PN (HH s) : Nat)) (iI (AR (HH s))) d) : ∀ (f g : Nat) (d : DT), g + f = 900 → IV s nn by_ cc pp d → wp_L_points_L302 x1 x2 (iI (M : Nat)) (iI (PN (HH s) : Nat)) a13 a19 a26 a33 a40 k533 Q (f + 1) (iI (PI (HH s) g : Nat)) (iI (PI (HH s) g : Nat)) (iI (arA (HH s) g)) (iI (arB (HH s) g)) (iI (g : Nat)) d := by
  have hpw := p2_7 h7
  have hM : M ≤ 128 := by have := h.1; omega
  intro f
  induction f with
  | zero =>
    intro g d hg hI
    unfold wp_L_points_L302
    obtain rfl : g = 900 := by omega
    obtain ⟨a, b⟩ := ar_900 hW h7 289
    have := hk d hI
    rw [show PN (HH s) = PI (HH s) (900 + 289) from rfl, ← AR_arA, show (1189 : Nat) = 900 + 289 from rfl, a, b] at this
    exact ⟨fun _ => this, fun z => absurd (by decide) z⟩
  | succ f ih =>
    intro g d hg hI
    unfold wp_L_points_L302
    rw [show (900 : Int32) = iI ((900 : Nat) : Int) from rfl, iI_le (by omega) (by omega) (by omega) (by omega), iI_succ]
    exact ⟨fun z => by omega, fun _ => ⟨M + 1, sL_313 hW h7 h hM (by omega) (fun d2 hI2 => ih (g + 1) d2 (by omega) hI2) M 0 d (by omega) hI (fun i hi => absurd hi (Nat.not_lt_zero _))⟩⟩
end
