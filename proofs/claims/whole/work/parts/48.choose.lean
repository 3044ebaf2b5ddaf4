theorem sp_readChoices {s : Nat → Nat} (hW : WF s) {cap : Nat} (hcap : cap ≤ 999) {h : Nat → Int} (hs : stP h) {sets lim must nev : Int32} {weight gain joy barred needed pa jy t0 c0 l0 : Nat → Int32}
    (hP : chP s sets lim must nev weight gain joy barred needed) (hpa : ptA h pa) (hj : ∀ n, n < PN h → jy n = iI (PJ h n)) (ht : ∀ n, n < PN h → t0 n = 0)
    {Q : (Nat → Int32) → (Nat → Int32) → (Nat → Int32) → Prop} (hQ : ∀ t c l, coP s cap h (2 ^ s 0) t c l → Q t c l) :
    wp_X2_readChoices (iI (cap : Nat)) sets lim must nev gain joy pa jy weight barred needed t0 c0 l0 Q := by
  have hp := wf_pow hW
  have hp0 := Nat.two_pow_pos (s 0)
  have hN := PN_le h
  obtain ⟨p1, p2, p3, p4, p5, p6, p7, p8, p9⟩ := id hP
  have key : ∀ (d x : Nat) (t c l : Nat → Int32), x + d = 2 ^ s 0 → coP s cap h x t c l → wp_X2_readChoices_L2 sets lim must nev gain joy pa jy weight barred needed (iI (cap : Nat)) Q (d + 1) (iI (x : Nat)) t c l := by
    intro d
    induction d with
    | zero =>
      intro x t c l hx hI
      unfold wp_X2_readChoices_L2
      obtain rfl : x = 2 ^ s 0 := by omega
      rw [p1, iI_le (by omega) (by omega) (by omega) (by omega), ← p1]
      exact ⟨fun _ => hQ t c l hI, fun c => absurd (Int.le_refl _) c⟩
    | succ d ih =>
      intro x t c l hx hI
      have e0 : sets ≤ iI (x : Nat) ↔ ((2 ^ s 0 : Nat) : Int) ≤ (x : Int) := by rw [p1, iI_le (by omega) (by omega) (by omega) (by omega)]
      have e1 : (4096 : Int32) ≤ iI (x : Nat) ↔ ((4096 : Nat) : Int) ≤ (x : Int) := by rw [iI_lit 4096, iI_le (by omega) (by omega) (by omega) (by omega)]
      have hi : vp_in (iI (x : Nat)) 4096 := in_lit (by omega) (by omega)
      have hgb : sm s 1 x (s 0) ≤ 1188 := sm_bd hW (by omega) x
      have hj2 : sm s 2 x (s 0) ≤ 1188 := sm_bd hW (by omega) x
      have hr := rf_le s cap x
      unfold wp_X2_readChoices_L2
      rw [e0, e1, iI_clN (by omega), p6 x (by omega), p7 x (by omega)]
      refine ⟨fun c => absurd c (by omega), fun _ => ⟨fun c => absurd c (by omega), fun _ => ⟨hi, hi, sp_pointWithPair hs hpa hj hgb (by omega) (by omega) ?_⟩⟩⟩
      rcases PB_rng hW hs x with b | ⟨n, hn, b⟩
      · rw [show (if h (sm s 1 x (s 0)) = (sm s 2 x (s 0) : Int) then (PI h (sm s 1 x (s 0)) : Int) else -1) = -1 from b]
        refine ⟨fun _ => ?_, fun z => absurd iI_m1.symm z⟩
        rw [iI_succ]
        exact ih (x + 1) t c l (by omega) (coP_skip hI fun n _ z => by have := z.2; omega)
      · rw [show (if h (sm s 1 x (s 0)) = (sm s 2 x (s 0) : Int) then (PI h (sm s 1 x (s 0)) : Int) else -1) = (n : Int) from b]
        rw [iI_m1, iI_eq (by omega) (by omega) (by omega) (by omega)]
        refine ⟨fun z => absurd z (by omega), fun _ => sp_reason hW hcap (by omega) hP ?_⟩
        rw [iI_z (by omega)]
        refine ⟨fun c1 => ?_, fun c1 => ⟨in_lit (by omega) (by omega), ?_⟩⟩
        · rw [iI_succ]
          exact ih (x + 1) t c l (by omega) (coP_skip hI fun n _ z => c1 z.1)
        · have htn := hI.1 n hn
          have htl := tmF_le (s := s) (cap := cap) (h := h) x n
          have hi2 : vp_in (iI (n : Nat)) 1189 := in_lit (by omega) (by omega)
          rw [iI_clN (z := n) (by omega), htn, iI_z (by omega)]
          refine ⟨fun c2 => ?_, fun c2 => ⟨hi2, hi2, ?_⟩⟩
          · have hl := hI.2.2 n hn (by omega)
            have hlt := ltF_lt (s := s) (cap := cap) (h := h) x n
            have hw1 : sm s 0 (ltF s cap h x n) (s 0) ≤ 1188 := sm_bd hW (by omega) _
            have hw2 : sm s 0 x (s 0) ≤ 1188 := sm_bd hW (by omega) _
            rw [hl, iI_clN (z := ltF s cap h x n) (by omega), p5 x (by omega), p5 (ltF s cap h x n) (by omega), iI_le (by omega) (by omega) (by omega) (by omega)]
            refine ⟨hi, hi2, in_lit (by omega) (by omega), fun c3 => ?_, fun c3 => ⟨hi2, ?_⟩⟩
            · unfold wp_X2_readChoices_b108
              rw [iI_clN (z := n) (by omega), iI_succ]
              exact ⟨hi2, hi2, ih (x + 1) _ _ _ (by omega) (coP_step hI hn c1 b (fun z => absurd z c2) (fun _ => rfl) (fun _ z => absurd z (by omega)) (fun _ _ => rfl) (fun _ _ => rfl) (fun _ _ => rfl))⟩
            · unfold wp_X2_readChoices_b108
              rw [iI_clN (z := n) (by omega), iI_succ]
              exact ⟨hi2, hi2, ih (x + 1) _ _ _ (by omega) (coP_step hI hn c1 b (fun z => absurd z c2) (fun _ => rfl) (fun _ _ => pk_us) (fun _ z => absurd (by omega) z) (fun _ _ => rfl) (fun _ e => pk_un e))⟩
          · unfold wp_X2_readChoices_b108
            rw [iI_clN (z := n) (by omega), iI_succ]
            exact ⟨hi2, hi2, ih (x + 1) _ _ _ (by omega) (coP_step hI hn c1 b (fun _ => ⟨pk_us, pk_us⟩) (fun z => absurd c2 (by omega)) (fun z => absurd c2 (by omega)) (fun z => absurd c2 (by omega)) (fun _ e => pk_un e) (fun _ e => pk_un e))⟩
  unfold wp_X2_readChoices
  refine ⟨2 ^ s 0 + 1, ?_⟩
  rw [iI_lit 0]
  refine key (2 ^ s 0) 0 t0 c0 l0 (by omega) ⟨fun n hn => by rw [ht n hn]; exact iI_lit 0, fun n hn z => absurd z (by simp [tmF]), fun n hn z => absurd z (by simp [tmF])⟩
theorem sp_pointWith {h : Nat → Int} (hs : stP h) {pa joy : Nat → Int32} (hpa : ptA h pa) (hj : ∀ n, n < PN h → joy n = iI (PJ h n)) {g : Nat} (hg : g ≤ 1188) {j : Int} (hj1 : 0 ≤ j) (hj2 : j ≤ 1188) {Q : Int32 → Prop} (hQ : Q (iI (if h g = j then (PI h g : Int) else -1))) : wp_X11_pointWith (iI (g : Nat)) (iI j) pa joy Q := by
  have hr := hs.1 g
  have hpi := PI_le h g
  unfold wp_X11_pointWith
  refine sp_in ?_
  rw [Int32.toInt_toInt64, iI_toInt (by omega) (by omega), show (0 : Int64).toInt = 0 from rfl, show (1188 : Int64).toInt = 1188 from by decide, if_pos (by omega)]
  have hi : vp_in (iI (g : Nat)) 1189 := in_lit (by omega) (by omega)
  refine ⟨fun z => absurd z (by decide), fun _ => ⟨hi, ?_⟩⟩
  rw [iI_clN (by omega), hpa g (by omega)]
  by_cases c : h g = -1
  · rw [if_neg (by omega)] at hQ
    rw [if_pos c]
    exact ⟨fun z => absurd iI_m1.symm z, fun _ => by rw [iI_m1]; exact hQ⟩
  · rw [if_neg c, iI_m1, iI_eq (by omega) (by omega) (by omega) (by omega), iI_clN (z := PI h g) (by omega), hj (PI h g) (PI_lt_N (by omega) c), show PJ h (PI h g) = h g by unfold PJ; rw [PG_PI (by omega) c], iI_eq (by omega) (by omega) (by omega) (by omega)]
    refine ⟨fun _ => ⟨hi, in_lit (by omega) (by omega), fun z => ?_, fun z => ⟨hi, ?_⟩⟩, fun z => absurd z (by omega)⟩
    · rw [if_neg z] at hQ; exact hQ
    · rw [if_pos z] at hQ; exact hQ
theorem sp_pointBy {s : Nat → Nat} (hW : WF s) {row : Nat → Int32} (hN : neP s row) {h : Nat → Int} (hs : stP h) {pa joy : Nat → Int32} (hpa : ptA h pa) (hj : ∀ n, n < PN h → joy n = iI (PJ h n)) {q : Nat} (hq : q < 4096) {Q : Int32 → Prop} (hQ : Q (iI (PB s h q))) : wp_X11_pointBy (iI (q : Nat)) row pa joy Q := by
  have hgb : sm s 1 q (s 0) ≤ 1188 := sm_bd hW (by omega) q
  have hj2 : sm s 2 q (s 0) ≤ 1188 := sm_bd hW (by omega) q
  unfold wp_X11_pointBy
  exact sp_sumOf (w := 1) hW hN hq (by omega) (sp_sumOf (w := 2) hW hN hq (by omega) (sp_pointWith hs hpa hj hgb (by omega) (by omega) hQ))
theorem sp_noteChoice {s : Nat → Nat} (hW : WF s) {row : Nat → Int32} (hN : neP s row) {cap : Nat} {h : Nat → Int} {x n : Nat} (hx : x < 2 ^ s 0) (hn : n < PN h) {t c l : Nat → Int32} (hI : coP s cap h x t c l) (hr : rf s cap x = 0) (hb : PB s h x = (n : Int))
    {Q : (Nat → Int32) → (Nat → Int32) → (Nat → Int32) → Prop} (hQ : ∀ t c l, coP s cap h (x + 1) t c l → Q t c l) : wp_X11_noteChoice (iI (n : Nat)) (iI (x : Nat)) t c row l Q := by
  have hp := wf_pow hW
  have hPN := PN_le h
  have hi2 : vp_in (iI (n : Nat)) 1189 := in_lit (by omega) (by omega)
  have hcl : (iI (n : Nat)).toNatClampNeg = n := iI_clN (by omega)
  have htn := hI.1 n hn
  have htl := tmF_le (s := s) (cap := cap) (h := h) x n
  unfold wp_X11_noteChoice
  rw [hcl, htn, iI_z (by omega)]
  refine ⟨hi2, fun c1 => ?_, fun c1 => ⟨hi2, ?_⟩⟩
  · have hl := hI.2.2 n hn (by omega)
    have hlt := ltF_lt (s := s) (cap := cap) (h := h) x n
    have hw1 : sm s 0 (ltF s cap h x n) (s 0) ≤ 1188 := sm_bd hW (by omega) _
    have hw2 : sm s 0 x (s 0) ≤ 1188 := sm_bd hW (by omega) _
    unfold wp_X11_noteChoice_b26
    refine ⟨fun z => absurd rfl z, fun _ => sp_sumOf (w := 0) hW hN (by omega) (by omega) ⟨hi2, ?_⟩⟩
    rw [hcl, hl]
    refine sp_sumOf (w := 0) hW hN (by omega) (by omega) ?_
    rw [iI_le (by omega) (by omega) (by omega) (by omega)]
    refine ⟨fun c3 => ⟨hi2, hi2, ?_⟩, fun c3 => ?_⟩
    · exact hQ _ _ _ (coP_step hI hn hr hb (fun z => absurd z c1) (fun _ => rfl) (fun _ z => absurd z (by omega)) (fun _ _ => rfl) (fun _ _ => rfl) (fun _ _ => rfl))
    · unfold wp_X11_noteChoice_b50
      rw [hcl]
      exact ⟨hi2, hi2, hi2, hQ _ _ _ (coP_step hI hn hr hb (fun z => absurd z c1) (fun _ => rfl) (fun _ _ => pk_us) (fun _ z => absurd (by omega) z) (fun _ _ => rfl) (fun _ e => pk_un e))⟩
  · unfold wp_X11_noteChoice_b26
    refine ⟨fun _ => ?_, fun z => absurd z (by decide)⟩
    unfold wp_X11_noteChoice_b50
    rw [hcl]
    exact ⟨hi2, hi2, hi2, hQ _ _ _ (coP_step hI hn hr hb (fun _ => ⟨pk_us, pk_us⟩) (fun z => absurd c1 (by omega)) (fun z => absurd c1 (by omega)) (fun z => absurd c1 (by omega)) (fun _ e => pk_un e) (fun _ e => pk_un e))⟩
theorem sp_layAll {s : Nat → Nat} (hW : WF s) {row : Nat → Int32} (hN : neP s row) {am pm : Int32} {t_joyAt pa pg pj pt ps pl : Nat → Int32} {Q : Int32 → Int32 → (Nat → Int32) → (Nat → Int32) → (Nat → Int32) → (Nat → Int32) → (Nat → Int32) → (Nat → Int32) → (Nat → Int32) → Prop}
    (hQ : ∀ am pm ja pa pg pj pt ps pl, mpP s (s 1) 0 am pm ja pa pg pj → coP s (s 1) (HS s (s 1) 0) (2 ^ s 0) pt ps pl → Q am pm ja pa pg pj pt ps pl) : wp_X11_layAll am pm t_joyAt row pa pg pj pt ps pl Q := by
  have hp := wf_pow hW
  have hp0 := Nat.two_pow_pos (s 0)
  have hs := HS_stP hW (s 1) 0
  have hPN := PN_le (HS s (s 1) 0)
  unfold wp_X11_layAll
  refine sp_layPoints hW hN fun am pm ja pa pg pj pt hM ht => ⟨2 ^ s 0 + 1, ?_⟩
  obtain ⟨m1, m2, m3, m4, m5⟩ := id hM
  have key : ∀ (d x : Nat) (t c l : Nat → Int32), x + d = 2 ^ s 0 → coP s (s 1) (HS s (s 1) 0) x t c l → wp_X11_layAll_L6 row am pm ja pa pg pj Q (d + 1) (iI (x : Nat)) t c l := by
    intro d
    induction d with
    | zero =>
      intro x t c l hx hI
      unfold wp_X11_layAll_L6
      obtain rfl : x = 2 ^ s 0 := by omega
      refine sp_allSets hW hN ⟨fun _ => hQ _ _ _ _ _ _ _ _ _ hM hI, fun c => absurd (Int32.le_refl _) c⟩
    | succ d ih =>
      intro x t c l hx hI
      unfold wp_X11_layAll_L6
      refine sp_allSets hW hN ?_
      rw [iI_le (by omega) (by omega) (by omega) (by omega)]
      refine ⟨fun c => absurd c (by omega), fun _ => sp_pointBy hW hN hs m4 m5.2 (by omega) ?_⟩
      rcases PB_rng hW hs x with b | ⟨n, hn, b⟩
      · rw [b, iI_succ]
        exact ⟨fun _ => ih (x + 1) t c l (by omega) (coP_skip hI fun n _ z => by have := z.2; omega), fun z => absurd iI_m1.symm z⟩
      · rw [b, iI_m1, iI_eq (by omega) (by omega) (by omega) (by omega), iI_succ]
        refine ⟨fun z => absurd z (by omega), fun _ => sp_isAllowed hW hN (by omega) ?_⟩
        by_cases c1 : rf s (s 1) x = 0
        · rw [if_pos c1]
          exact ⟨fun z => absurd z (by decide), fun _ => sp_noteChoice hW hN (by omega) hn hI c1 b fun t c l hI2 => ih (x + 1) t c l (by omega) hI2⟩
        · rw [if_neg c1]
          exact ⟨fun _ => ih (x + 1) t c l (by omega) (coP_skip hI fun n _ z => c1 z.1), fun z => absurd rfl z⟩
  rw [iI_lit 0]
  exact key (2 ^ s 0) 0 pt ps pl (by omega) ⟨fun n hn => by rw [ht n hn]; exact iI_lit 0, fun n hn z => absurd z (by simp [tmF]), fun n hn z => absurd z (by simp [tmF])⟩
