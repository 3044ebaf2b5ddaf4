theorem sp_readChoices {s : Nat → Nat} (hW : WF s) {cap : Nat} (hcap : cap ≤ 999) {h : Nat → Int} (hs : stP h) {sets lim must nev : Int32} {weight gain joy barred needed pa jy t0 c0 l0 : Nat → Int32}
    (hP : chP s sets lim must nev weight gain joy barred needed) (hpa : ptA h pa) (hj : ∀ n, n < PN h → jy n = iI (PJ h n)) (ht : ∀ n, n < PN h → t0 n = 0)
    {Q : (Nat → Int32) → (Nat → Int32) → (Nat → Int32) → Prop} (hQ : ∀ t c l, coP s cap h (2 ^ s 0) t c l → Q t c l) :
    wp_X2_readChoices (iI (cap : Nat)) sets lim must nev gain joy pa jy weight barred needed t0 c0 l0 Q := by
  have hp := wf_pow hW
  have hp0 := Nat.two_pow_pos (s 0)
  have hN := PN_le h
  obtain ⟨p1, p2, p3, p4, p5, p6, p7, p8, p9⟩ := id hP
  have key : ∀ (d x : Nat) (t c l : Nat → Int32), x + d = 2 ^ s 0 → coP s cap h x t c l → wp_X2_readChoices_L2 sets lim must nev gain joy pa jy weight barred needed (iI (cap : Nat)) Q (d + 1) (iI (x : Nat)) t c l := by
    intro d
    induction d with
    | zero =>
      intro x t c l hx hI
      unfold wp_X2_readChoices_L2
      obtain rfl : x = 2 ^ s 0 := by omega
      rw [p1, iI_le (by omega) (by omega) (by omega) (by omega), ← p1]
      exact ⟨fun _ => hQ t c l hI, fun c => absurd (Int.le_refl _) c⟩
    | succ d ih =>
      intro x t c l hx hI
      have e0 : sets ≤ iI (x : Nat) ↔ ((2 ^ s 0 : Nat) : Int) ≤ (x : Int) := by rw [p1, iI_le (by omega) (by omega) (by omega) (by omega)]
      have e1 : (4096 : Int32) ≤ iI (x : Nat) ↔ ((4096 : Nat) : Int) ≤ (x : Int) := by rw [iI_lit 4096, iI_le (by omega) (by omega) (by omega) (by omega)]
      have hi : vp_in (iI (x : Nat)) 4096 := in_lit (by omega) (by omega)
      have hgb : sm s 1 x (s 0) ≤ 1188 := sm_bd hW (by omega) x
      have hj2 : sm s 2 x (s 0) ≤ 1188 := sm_bd hW (by omega) x
      have hr := rf_le s cap x
      unfold wp_X2_readChoices_L2
      rw [e0, e1, iI_clN (by omega), p6 x (by omega), p7 x (by omega)]
      refine ⟨fun c => absurd c (by omega), fun _ => ⟨fun c => absurd c (by omega), fun _ => ⟨hi, hi, sp_pointWithPair hs hpa hj hgb (by omega) (by omega) ?_⟩⟩⟩
      rcases PB_rng hW hs x with b | ⟨n, hn, b⟩
      · rw [show (if h (sm s 1 x (s 0)) = (sm s 2 x (s 0) : Int) then (PI h (sm s 1 x (s 0)) : Int) else -1) = -1 from b]
        refine ⟨fun _ => ?_, fun z => absurd iI_m1.symm z⟩
        rw [iI_succ]
        exact ih (x + 1) t c l (by omega) (coP_skip hI fun n _ z => by have := z.2; omega)
      · rw [show (if h (sm s 1 x (s 0)) = (sm s 2 x (s 0) : Int) then (PI h (sm s 1 x (s 0)) : Int) else -1) = (n : Int) from b]
        rw [iI_m1, iI_eq (by omega) (by omega) (by omega) (by omega)]
        refine ⟨fun z => absurd z (by omega), fun _ => sp_reason hW hcap (by omega) hP ?_⟩
        rw [iI_z (by omega)]
        refine ⟨fun c1 => ?_, fun c1 => ⟨in_lit (by omega) (by omega), ?_⟩⟩
        · rw [iI_succ]
          exact ih (x + 1) t c l (by omega) (coP_skip hI fun n _ z => c1 z.1)
        · have htn := hI.1 n hn
          have htl := tmF_le (s := s) (cap := cap) (h := h) x n
          have hi2 : vp_in (iI (n : Nat)) 1189 := in_lit (by omega) (by omega)
          rw [iI_clN (z := n) (by omega), htn, iI_z (by omega)]
          refine ⟨fun c2 => ?_, fun c2 => ⟨hi2, hi2, ?_⟩⟩
          · have hl := hI.2.2 n hn (by omega)
            have hlt := ltF_lt (s := s) (cap := cap) (h := h) x n
            have hw1 : sm s 0 (ltF s cap h x n) (s 0) ≤ 1188 := sm_bd hW (by omega) _
            have hw2 : sm s 0 x (s 0) ≤ 1188 := sm_bd hW (by omega) _
            rw [hl, iI_clN (z := ltF s cap h x n) (by omega), p5 x (by omega), p5 (ltF s cap h x n) (by omega), iI_le (by omega) (by omega) (by omega) (by omega)]
            refine ⟨hi, hi2, in_lit (by omega) (by omega), fun c3 => ?_, fun c3 => ⟨hi2, ?_⟩⟩
            · unfold wp_X2_readChoices_b108
              rw [iI_clN (z := n) (by omega), iI_succ]
              exact ⟨hi2, hi2, ih (x + 1) _ _ _ (by omega) (coP_step hI hn c1 b (fun z => absurd z c2) (fun _ => rfl) (fun _ z => absurd z (by omega)) (fun _ _ => rfl) (fun _ _ => rfl) (fun _ _ => rfl))⟩
            · unfold wp_X2_readChoices_b108
              rw [iI_clN (z := n) (by omega), iI_succ]
              exact ⟨hi2, hi2, ih (x + 1) _ _ _ (by omega) (coP_step hI hn c1 b (fun z => absurd z c2) (fun _ => rfl) (fun _ _ => pk_us) (fun _ z => absurd (by omega) z) (fun _ _ => rfl) (fun _ e => pk_un e))⟩
          · unfold wp_X2_readChoices_b108
            rw [iI_clN (z := n) (by omega), iI_succ]
            exact ⟨hi2, hi2, ih (x + 1) _ _ _ (by omega) (coP_step hI hn c1 b (fun _ => ⟨pk_us, pk_us⟩) (fun z => absurd c2 (by omega)) (fun z => absurd c2 (by omega)) (fun z => absurd c2 (by omega)) (fun _ e => pk_un e) (fun _ e => pk_un e))⟩
  unfold wp_X2_readChoices
  refine ⟨2 ^ s 0 + 1, ?_⟩
  rw [iI_lit 0]
  refine key (2 ^ s 0) 0 t0 c0 l0 (by omega) ⟨fun n hn => by rw [ht n hn]; exact iI_lit 0, fun n hn z => absurd z (by simp [tmF]), fun n hn z => absurd z (by simp [tmF])⟩
