/-! THE LAW LOADS: the loops -/
section
variable {sn : Nat} {sx : Nat → Int32} {high : Nat} {Q : Int32 → DT → Prop} {s0 : Nat → Nat} {by_ : Nat → Int} {cc pp : Int} {d : DT} {c l : Nat} {tl : Int32}
theorem mod2 {k : Nat} (hk : k < 1000) : iI (k : Nat) - iI (k : Nat) / (2 : Int32) * (2 : Int32) = iI ((k % 2 : Nat) : Int) := by
  rw [show (2 : Int32) = iI ((2 : Nat) : Int) from rfl, iI_divN (by omega) (by omega) (by omega), iI_mul, iI_sub]
  congr 1
  omega
theorem sL_188 (hsn : sn < 2147483648) {many : Nat} (h7 : many ≤ 7) {k386 : Int32 → Int32 → Nat → Nat → (Nat → Int32) → Int32 → (Nat → Int32) → (Nat → Int32) → Prop} (hk : ∀ st T m tp tn tf tc ta na br nd, st 0 = many → LK sn sx high st ta na br nd → LT T c l st m → m ≤ 20 → T.length ≤ 400 → SBS T tn tf tc → st 3 = 0 → st 4 = 0 → k386 (iI (br : Nat)) (iI (nd : Nat)) tp tn tf tc ta na) : ∀ (f k : Nat), k + f = 5 → ∀ st T m tp tn tf tc ta na br nd, st 0 = many → LK sn sx high st ta na br nd → SY st → LT T c l st m → m ≤ 7 + k → T.length ≤ 260 + 20 * k → SBS T tn tf tc → st 3 = 0 → st 4 = 0 → wp_L_load_L188 sn sx (iI (many : Nat)) (iI (high : Nat)) d tl k386 Q (f + 1) (iI (br : Nat)) (iI (nd : Nat)) (iI (k : Nat)) tp tn tf tc ta na := by
  intro f
  induction f with
  | zero =>
    intro k hk5 st T m tp tn tf tc ta na br nd e0 hK hY hT hm hl hS h3 h4
    have ht := hS.2.2.2.1
    have ex := hk st T m tp tn tf tc ta na br nd e0 hK hT (by omega) (by omega) hS h3 h4
    unfold wp_L_load_L188
    refine ⟨fun _ => ⟨⟨Nat.le_refl _, Nat.le_refl _⟩, ex⟩, fun _ => ⟨⟨by omega, by omega⟩, sL_draw (k := 5) (n := 5) hsn (by omega) (by omega) (by omega) ⟨fun _ => ⟨⟨Nat.le_refl _, Nat.le_refl _⟩, ex⟩, fun z => ?_⟩⟩⟩
    have := drw_lt (sn := sn) (sx := sx) (k := 5) (n := 5) (by omega)
    rw [iI_le (by omega) (by omega) (by omega) (by omega)] at z
    omega
  | succ f ih =>
    intro k hk5 st T m tp tn tf tc ta na br nd e0 hK hY hT hm hl hS h3 h4
    have ht := hS.2.2.2.1
    have hW := LT_w hT
    have ex := hk st T m tp tn tf tc ta na br nd e0 hK hT (by omega) (by omega) hS h3 h4
    have same := ih (k + 1) (by omega) st T m tp tn tf tc ta na br nd e0 hK hY hT (by omega) (by omega) hS h3 h4
    unfold wp_L_load_L188
    rw [show (1 : Int32) = iI ((1 : Nat) : Int) from rfl, iI_le (by omega) (by omega) (by omega) (by omega)]
    refine ⟨fun _ => ⟨⟨Nat.le_refl _, Nat.le_refl _⟩, ex⟩, fun hmany => ⟨⟨by omega, by omega⟩, sL_draw (k := 5) (n := 5) hsn (by omega) (by omega) (by omega) ⟨fun _ => ⟨⟨Nat.le_refl _, Nat.le_refl _⟩, ex⟩, fun z => ⟨⟨by omega, by omega⟩, ?_⟩⟩⟩⟩
    rw [show (40 : Int32) = iI ((40 : Nat) : Int) from rfl, show (41 : Int32) = iI ((41 : Nat) : Int) from rfl, show (2 : Int32) = iI ((2 : Nat) : Int) from rfl, iI_mul, iI_add, iI_add, iI_sub, show (((40 : Nat) : Int) + ((2 : Nat) : Int) * (k : Int)) = ((40 + 2 * k : Nat) : Int) by omega, show (((41 : Nat) : Int) + ((2 : Nat) : Int) * (k : Int)) = ((41 + 2 * k : Nat) : Int) by omega, show ((many : Int) - ((1 : Nat) : Int)) = ((many - 1 : Nat) : Int) by omega]
    refine sL_draw hsn (by omega) (by omega) (by omega) ⟨⟨by omega, by omega⟩, sL_draw hsn (by omega) (by omega) (by omega) ⟨?_, fun v239 h239 => ?_⟩⟩
    · rw [eq0_I (by omega) (by omega)]; omega
    have l1 := drw_lt (sn := sn) (sx := sx) (k := 40 + 2 * k) (n := many) (by omega)
    have l2 := drw_lt (sn := sn) (sx := sx) (k := 41 + 2 * k) (n := many - 1) (by omega)
    generalize drw sn sx (40 + 2 * k) many = a at h239 l1 ⊢
    generalize drw sn sx (41 + 2 * k) (many - 1) = b at h239 l2
    have eb : v239 = iI (((a + 1 + b) % many : Nat) : Int) := by
      rw [h239, iI_add, iI_add, show ((a : Int) + ((1 : Nat) : Int) + (b : Int)) = ((a + 1 + b : Nat) : Int) by omega, iI_divN (by omega) (by omega) (by omega), iI_mul, iI_sub]
      congr 1
      have := Nat.div_add_mod (a + 1 + b) many
      have := Nat.mul_comm many ((a + 1 + b) / many)
      have e3 : (((a + 1 + b) / many : Nat) : Int) * (many : Int) = (((a + 1 + b) / many * many : Nat) : Int) := by simp
      rw [e3]
      omega
    have hb : (a + 1 + b) % many < many := Nat.mod_lt _ (by omega)
    have hab : a ≠ (a + 1 + b) % many := by
      by_cases q : a + 1 + b < many
      · rw [Nat.mod_eq_of_lt q]; omega
      · rw [Nat.mod_eq_sub_mod (by omega), Nat.mod_eq_of_lt (by omega)]; omega
    clear h239
    subst eb
    generalize (a + 1 + b) % many = o at hb hab ⊢
    have r3 := row_lt hW (i := a) (w := 3) (by omega) (Or.inl rfl)
    have r4 := row_lt hW (i := a) (w := 4) (by omega) (Or.inr rfl)
    have hp := wf_pow hW
    obtain ⟨ra, rn⟩ := hK.2.2.1 a (by omega)
    rw [← show (2 : Int32) = iI ((2 : Nat) : Int) from rfl, mod2 (by omega)]
    by_cases ev : k % 2 = 0
    · -- even: a bar
      have c1 : iI ((k % 2 : Nat) : Int) = 0 := by rw [ev]; rfl
      have c2 : ¬ iI ((k % 2 : Nat) : Int) = 1 := by rw [ev]; decide +kernel
      have b316 : ∀ st T m tp tn tf tc ta na br nd, st 0 = many → LK sn sx high st ta na br nd → SY st → LT T c l st m → m ≤ 7 + (k + 1) → T.length ≤ 260 + 20 * (k + 1) → SBS T tn tf tc → st 3 = 0 → st 4 = 0 → wp_L_load_b316 sn sx (iI (many : Nat)) (iI (high : Nat)) d tl (fun z0 z1 z2 z3 z4 z5 z6 z7 z8 => wp_L_load_L188 sn sx (iI (many : Nat)) (iI (high : Nat)) d tl k386 Q (f + 1) z0 z1 z2 z3 z4 z5 z6 z7 z8) k386 Q (iI (br : Nat)) (iI (nd : Nat)) (iI (k : Nat)) (iI (a : Nat)) (iI (o : Nat)) tp tn tf tc ta na := by
        intro st T m tp tn tf tc ta na br nd e0 hK hY hT hm hl hS h3 h4
        unfold wp_L_load_b316
        rw [mod2 (by omega), show iI (k : Nat) + 1 = iI ((k + 1 : Nat) : Int) from iI_succ k]
        refine ⟨fun _ => ⟨⟨Nat.le_refl _, Nat.le_refl _⟩, ih (k + 1) (by omega) st T m tp tn tf tc ta na br nd e0 hK hY hT hm hl hS h3 h4⟩, fun q => absurd q c2⟩
      refine ⟨fun q => absurd c1 q, fun _ => ⟨in_lit (by omega) (by omega), ?_⟩⟩
      rw [iI_clN (by omega), ra, ← show (1 : Int32) = iI ((1 : Nat) : Int) from rfl, bit0 (by omega) (by omega)]
      refine ⟨fun _ => ⟨⟨Nat.le_refl _, Nat.le_refl _⟩, b316 st T m tp tn tf tc ta na br nd e0 hK hY hT (by omega) (by omega) hS h3 h4⟩, fun hbit => ?_⟩
      have da := dl_le a
      have db := dl_le o
      refine sb_S (S := lB1) hS (asc_of (by decide)) (by simp only [List.length_cons, List.length_nil]; omega) 12 140 (by omega) (by omega) (Nat.le_refl _) (Nat.le_refl _) fun mb sb tp2 tn2 tf2 tc2 hS2 k1 k2 k3 => ?_
      refine sb_I (v := a) (by omega) hS2 (by simp only [List.length_append, List.length_cons, List.length_nil]; omega) 12 140 (by omega) (by omega) k1 k2 fun mb sb tp3 tn3 tf3 tc3 hS3 k1 k2 k3 => ?_
      refine sb_S (S := lSp) hS3 (asc_of (by decide)) (by simp only [List.length_append, List.length_cons, List.length_nil, dd_len]; omega) 12 140 (by omega) (by omega) k1 k2 fun mb sb tp4 tn4 tf4 tc4 hS4 k1 k2 k3 => ?_
      refine sb_I (v := o) (by omega) hS4 (by simp only [List.length_append, List.length_cons, List.length_nil, dd_len]; omega) 12 140 (by omega) (by omega) k1 k2 fun mb sb tp5 tn5 tf5 tc5 hS5 k1 k2 k3 => ?_
      refine sb_S (S := lSe) hS5 (asc_of (by decide)) (by simp only [List.length_append, List.length_cons, List.length_nil, dd_len]; omega) 12 140 (by omega) (by omega) k1 k2 fun mb sb tp6 tn6 tf6 tc6 hS6 k1 k2 k3 => ⟨in_lit (by omega) (by omega), in_lit (by omega) (by omega), in_lit (by omega) (by omega), in_lit (by omega) (by omega), ⟨k1, k2⟩, ?_⟩
      obtain ⟨hK2, hY2⟩ := LK_bar hK hY (a := a) (b := o) (by omega) (by omega) hab hbit
      have hP := Ps_bar (s := st) (a := a) (b := o) (by omega) (by omega) (by omega) (fun z => hab z.symm) hbit
      have W1 := WF_r hW (i := a) (w := 3) (j := o) (by omega) (by omega) (Or.inl rfl)
      have W2 : WF (barS st a o true) := by
        have := WF_r W1 (i := o) (w := 3) (j := a) (by rw [su_ne (by omega)]; omega) (by rw [su_ne (by omega)]; omega) (Or.inl rfl)
        rw [su_ne (show 6 + 5 * o + 3 ≠ 6 + 5 * a + 3 by omega)] at this
        exact this
      have q0 : ∀ j, j < 6 → barS st a o true j = st j := fun j hj => by unfold barS; rw [su_ne (by omega), su_ne (by omega)]
      have hT2 := LT_app hT hP W2 (q0 1 (by omega)) (q0 5 (by omega))
      rw [iI_clN (by omega), show iI (br : Nat) + (1 : Int32) = iI ((br + 1 : Nat) : Int) from iI_succ br, ← ra]
      refine b316 (barS st a o true) (T ++ (lB1 ++ (dd a ++ (lSp ++ (dd o ++ lSe))))) (m + 1) tp6 tn6 tf6 tc6 _ na (br + 1) nd (by rw [q0 0 (by omega)]; exact e0) hK2 hY2 hT2 (by omega) (by simp only [List.length_append, List.length_cons, List.length_nil, dd_len]; omega) ?_ (by rw [q0 3 (by omega)]; exact h3) (by rw [q0 4 (by omega)]; exact h4)
      simp only [List.append_assoc] at hS6
      exact hS6
    · -- odd: a need
      have c1 : ¬ iI ((k % 2 : Nat) : Int) = 0 := by rw [show k % 2 = 1 by omega]; decide +kernel
      have c2 : iI ((k % 2 : Nat) : Int) = 1 := by rw [show k % 2 = 1 by omega]; rfl
      refine ⟨fun _ => ⟨⟨Nat.le_refl _, Nat.le_refl _⟩, ?_⟩, fun q => absurd q c1⟩
      unfold wp_L_load_b316
      rw [mod2 (by omega), show iI (k : Nat) + 1 = iI ((k + 1 : Nat) : Int) from iI_succ k, iI_clN (by omega), rn, bit0 (by omega) (by omega)]
      refine ⟨fun q => absurd c2 q, fun _ => ⟨in_lit (by omega) (by omega), fun _ => ⟨⟨Nat.le_refl _, Nat.le_refl _⟩, same⟩, fun hbit => ?_⟩⟩
      have da := dl_le a
      have db := dl_le o
      refine sb_S (S := lN1) hS (asc_of (by decide)) (by simp only [List.length_cons, List.length_nil]; omega) 12 140 (by omega) (by omega) (Nat.le_refl _) (Nat.le_refl _) fun mb sb tp2 tn2 tf2 tc2 hS2 k1 k2 k3 => ?_
      refine sb_I (v := a) (by omega) hS2 (by simp only [List.length_append, List.length_cons, List.length_nil]; omega) 12 140 (by omega) (by omega) k1 k2 fun mb sb tp3 tn3 tf3 tc3 hS3 k1 k2 k3 => ?_
      refine sb_S (S := lSp) hS3 (asc_of (by decide)) (by simp only [List.length_append, List.length_cons, List.length_nil, dd_len]; omega) 12 140 (by omega) (by omega) k1 k2 fun mb sb tp4 tn4 tf4 tc4 hS4 k1 k2 k3 => ?_
      refine sb_I (v := o) (by omega) hS4 (by simp only [List.length_append, List.length_cons, List.length_nil, dd_len]; omega) 12 140 (by omega) (by omega) k1 k2 fun mb sb tp5 tn5 tf5 tc5 hS5 k1 k2 k3 => ?_
      refine sb_S (S := lSe) hS5 (asc_of (by decide)) (by simp only [List.length_append, List.length_cons, List.length_nil, dd_len]; omega) 12 140 (by omega) (by omega) k1 k2 fun mb sb tp6 tn6 tf6 tc6 hS6 k1 k2 k3 => ⟨in_lit (by omega) (by omega), in_lit (by omega) (by omega), ⟨k1, k2⟩, ?_⟩
      have hK2 := LK_need hK (a := a) (b := o) (by omega) (by omega) hbit
      have hP := Ps_need (s := st) (a := a) (b := o) (by omega) (by omega) (by omega) (fun z => hab z.symm) hbit
      have W2 := WF_r hW (i := a) (w := 4) (j := o) (by omega) (by omega) (Or.inr rfl)
      have q0 : ∀ j, j < 6 → su st (6 + 5 * a + 4) (tb (st (6 + 5 * a + 4)) o true) j = st j := fun j hj => su_ne (by omega)
      have hT2 := LT_app hT hP W2 (q0 1 (by omega)) (q0 5 (by omega))
      rw [show iI (nd : Nat) + (1 : Int32) = iI ((nd + 1 : Nat) : Int) from iI_succ nd, ← rn]
      refine ih (k + 1) (by omega) (su st (6 + 5 * a + 4) (tb (st (6 + 5 * a + 4)) o true)) (T ++ (lN1 ++ (dd a ++ (lSp ++ (dd o ++ lSe))))) (m + 1) tp6 tn6 tf6 tc6 ta _ br (nd + 1) (by rw [q0 0 (by omega)]; exact e0) hK2 (SY_su hY ⟨by omega, fun i => by omega⟩) hT2 (by omega) (by simp only [List.length_append, List.length_cons, List.length_nil, dd_len]; omega) ?_ (by rw [q0 3 (by omega)]; exact h3) (by rw [q0 4 (by omega)]; exact h4)
      simp only [List.append_assoc] at hS6
      exact hS6
/-! items -/
def LZ (st : Nat → Nat) : Prop := st 3 = 0 ∧ st 4 = 0 ∧ ∀ i, i < st 0 → st (6 + 5 * i + 3) = 0 ∧ st (6 + 5 * i + 4) = 0
theorem LZ_ad {st : Nat → Nat} {a b e : Nat} (h : LZ st) : LZ (adS st a b e) := by
  obtain ⟨h3, h4, hr⟩ := h
  refine ⟨by rw [adS_low (by omega) (by omega)]; exact h3, by rw [adS_low (by omega) (by omega)]; exact h4, fun i hi => ?_⟩
  rw [adS_0] at hi
  by_cases q : i = st 0
  · subst q
    rw [adS_new (by omega), adS_new (by omega)]
    exact ⟨rfl, rfl⟩
  · rw [adS_low (by omega) (by omega), adS_low (by omega) (by omega)]
    exact hr i (by omega)
theorem LI_ad {st : Nat → Nat} (h : LI sn sx high st) {k : Nat} (hk : st 0 = k) : LI sn sx high (adS st (drw sn sx (10 + 3 * k) high) (drw sn sx (11 + 3 * k) high) (drw sn sx (12 + 3 * k) high)) := by
  intro i w hi hw
  rw [adS_0] at hi
  by_cases q : i = st 0
  · subst q
    rw [adS_new (by omega)]
    rcases (by omega : w = 0 ∨ w = 1 ∨ w = 2) with e | e | e <;> subst e <;> subst hk
    · rfl
    · show drw sn sx (11 + 3 * st 0) high = drw sn sx (10 + 1 + 3 * st 0) high
      rfl
    · show drw sn sx (12 + 3 * st 0) high = drw sn sx (10 + 2 + 3 * st 0) high
      rfl
  · rw [adS_low (by omega) (by omega)]
    exact h i w (by omega) hw
theorem sL_87 (hsn : sn < 2147483648) (h1 : 8 ≤ high) (h2 : high ≤ 100) {many : Nat} (h7 : many ≤ 7) {k167 : Nat → Nat → (Nat → Int32) → Int32 → Prop} (hk : ∀ st T m tp tn tf tc, st 0 = many → LI sn sx high st → LZ st → LT T c l st m → m ≤ 7 → T.length ≤ 260 → SBS T tn tf tc → k167 tp tn tf tc) : ∀ (f k : Nat), k + f = many → ∀ st T m tp tn tf tc, st 0 = k → LI sn sx high st → LZ st → LT T c l st m → m ≤ k → T.length ≤ 25 + 33 * k → SBS T tn tf tc → wp_L_load_L87 sn sx (iI (many : Nat)) (iI (high : Nat)) d tl k167 Q (f + 1) (iI (k : Nat)) tp tn tf tc := by
  intro f
  induction f with
  | zero =>
    intro k hf st T m tp tn tf tc e0 hL hZ hT hm hl hS
    unfold wp_L_load_L87
    rw [iI_le (by omega) (by omega) (by omega) (by omega)]
    exact ⟨fun _ => ⟨⟨Nat.le_refl _, Nat.le_refl _⟩, hk st T m tp tn tf tc (by omega) hL hZ hT (by omega) (by omega) hS⟩, fun z => by omega⟩
  | succ f ih =>
    intro k hf st T m tp tn tf tc e0 hL hZ hT hm hl hS
    have hW := LT_w hT
    unfold wp_L_load_L87
    rw [iI_le (by omega) (by omega) (by omega) (by omega), iI_succ]
    refine ⟨fun z => by omega, fun _ => ?_⟩
    rw [show (10 : Int32) = iI ((10 : Nat) : Int) from rfl, show (11 : Int32) = iI ((11 : Nat) : Int) from rfl, show (12 : Int32) = iI ((12 : Nat) : Int) from rfl, show (3 : Int32) = iI ((3 : Nat) : Int) from rfl, iI_mul, iI_add, iI_add, iI_add, show (((10 : Nat) : Int) + ((3 : Nat) : Int) * (k : Int)) = ((10 + 3 * k : Nat) : Int) by omega, show (((11 : Nat) : Int) + ((3 : Nat) : Int) * (k : Int)) = ((11 + 3 * k : Nat) : Int) by omega, show (((12 : Nat) : Int) + ((3 : Nat) : Int) * (k : Int)) = ((12 + 3 * k : Nat) : Int) by omega]
    have la := drw_lt (sn := sn) (sx := sx) (k := 10 + 3 * k) (n := high) (by omega)
    have lb := drw_lt (sn := sn) (sx := sx) (k := 11 + 3 * k) (n := high) (by omega)
    have lc := drw_lt (sn := sn) (sx := sx) (k := 12 + 3 * k) (n := high) (by omega)
    have da := dl_le (drw sn sx (10 + 3 * k) high)
    have db := dl_le (drw sn sx (11 + 3 * k) high)
    have dc := dl_le (drw sn sx (12 + 3 * k) high)
    refine sb_S (S := lI1) hS (asc_of (by decide)) (by simp only [List.length_cons, List.length_nil]; omega) 8 100 (by omega) (by omega) (Nat.le_refl _) (Nat.le_refl _) fun mb sb tp2 tn2 tf2 tc2 hS2 k1 k2 k3 => ⟨k3, sL_draw hsn (by omega) (by omega) (by omega) ?_⟩
    refine sb_I (v := drw sn sx (10 + 3 * k) high) (by omega) hS2 (by simp only [List.length_append, List.length_cons, List.length_nil]; omega) 8 100 (by omega) (by omega) k1 k2 fun mb sb tp3 tn3 tf3 tc3 hS3 k1 k2 k3 => ?_
    refine sb_S (S := lI2) hS3 (asc_of (by decide)) (by simp only [List.length_append, List.length_cons, List.length_nil, dd_len]; omega) 8 100 (by omega) (by omega) k1 k2 fun mb sb tp4 tn4 tf4 tc4 hS4 k1 k2 k3 => ⟨k3, sL_draw hsn (by omega) (by omega) (by omega) ?_⟩
    refine sb_I (v := drw sn sx (11 + 3 * k) high) (by omega) hS4 (by simp only [List.length_append, List.length_cons, List.length_nil, dd_len]; omega) 8 100 (by omega) (by omega) k1 k2 fun mb sb tp5 tn5 tf5 tc5 hS5 k1 k2 k3 => ?_
    refine sb_S (S := lI3) hS5 (asc_of (by decide)) (by simp only [List.length_append, List.length_cons, List.length_nil, dd_len]; omega) 8 100 (by omega) (by omega) k1 k2 fun mb sb tp6 tn6 tf6 tc6 hS6 k1 k2 k3 => ⟨k3, sL_draw hsn (by omega) (by omega) (by omega) ?_⟩
    refine sb_I (v := drw sn sx (12 + 3 * k) high) (by omega) hS6 (by simp only [List.length_append, List.length_cons, List.length_nil, dd_len]; omega) 8 100 (by omega) (by omega) k1 k2 fun mb sb tp7 tn7 tf7 tc7 hS7 k1 k2 k3 => ?_
    refine sb_S (S := lSe) hS7 (asc_of (by decide)) (by simp only [List.length_append, List.length_cons, List.length_nil, dd_len]; omega) 8 100 (by omega) (by omega) k1 k2 fun mb sb tp8 tn8 tf8 tc8 hS8 k1 k2 k3 => ⟨⟨k1, k2⟩, ?_⟩
    have hP := Ps_it (s := st) (by omega) (a := drw sn sx (10 + 3 * k) high) (b := drw sn sx (11 + 3 * k) high) (c := drw sn sx (12 + 3 * k) high) (by omega) (by omega) (by omega)
    have W2 := WF_adS hW (by omega) (a := drw sn sx (10 + 3 * k) high) (b := drw sn sx (11 + 3 * k) high) (c := drw sn sx (12 + 3 * k) high) (by omega) (by omega) (by omega)
    have hT2 := LT_app hT hP W2 (adS_low (by omega) (by omega)) (adS_low (by omega) (by omega))
    refine ih (k + 1) (by omega) _ _ (m + 1) tp8 tn8 tf8 tc8 (by rw [adS_0]; omega) (LI_ad hL e0) (LZ_ad hZ) hT2 (by omega) (by simp only [List.length_append, List.length_cons, List.length_nil, dd_len]; omega) ?_
    simp only [List.append_assoc] at hS8
    exact hS8
theorem pcs_z {st : Nat → Nat} {w : Nat} : ∀ {n : Nat}, (∀ i, i < n → st (6 + 5 * i + w) = 0) → pcs st w n = 0
  | 0, _ => rfl
  | n + 1, h => by
    simp only [pcs]
    rw [pcs_z (fun i hi => h i (by omega)), h n (by omega)]
    rfl
theorem sL_74 (hsn : sn < 2147483648) (h1 : 8 ≤ high) (h2 : high ≤ 100) {many : Nat} (h7 : many ≤ 7) (hc : c ≤ 999) (hl : l ≤ 12) (hI : IV s0 0 by_ cc pp d) {tp tn : Nat} {tf : Nat → Int32} {tc : Int32} (hS : SBS (lC1 ++ (dd c ++ lL1)) tn tf tc) (hQ : OKQ Q) : wp_L_load_b74 sn sx Q (iI (many : Nat)) (iI (high : Nat)) (iI (l : Nat)) d tp tn tf tc tl := by
  have dc := dl_le c
  have dl' := dl_le l
  unfold wp_L_load_b74
  refine sb_I (v := l) (by omega) hS (by simp only [List.length_append, List.length_cons, List.length_nil, dd_len]; omega) 8 100 (by omega) (by omega) (Nat.le_refl _) (Nat.le_refl _) fun mb sb tp2 tn2 tf2 tc2 hS2 k1 k2 k3 => ?_
  refine sb_S (S := lSe) hS2 (asc_of (by decide)) (by simp only [List.length_append, List.length_cons, List.length_nil, dd_len]; omega) 8 100 (by omega) (by omega) k1 k2 fun mb sb tp3 tn3 tf3 tc3 hS3 k1 k2 k3 => ⟨⟨k1, k2⟩, many + 1, ?_⟩
  have z0 : pz0 c l 0 = 0 := rfl
  refine sL_87 (c := c) (l := l) hsn h1 h2 h7 (fun st T m tp tn tf tc e0 hL hZ hT hm hlen hS => ?_) many 0 (by omega) (pz0 c l) _ 0 tp3 tn3 tf3 tc3 rfl (fun i w hi => by rw [z0] at hi; omega) ⟨rfl, rfl, fun i hi => by rw [z0] at hi; omega⟩ ⟨hc, hl, [], 0, ?_, Ps_0, Nat.le_refl _, WF_pz0 hc hl, rfl, rfl⟩ (Nat.le_refl _) (by simp only [List.length_append, List.length_cons, List.length_nil, dd_len]; omega) hS3
  · have ht := hS.2.2.2.1
    refine ⟨⟨by omega, by omega⟩, ⟨by omega, by omega⟩, ⟨by omega, by omega⟩, 6, ?_⟩
    obtain ⟨z3, z4, zr⟩ := hZ
    refine sL_188 (c := c) (l := l) hsn h7 (fun st T m tp tn tf tc ta na br nd e0 hK hT hm hlen hS h3 h4 => ?_) 5 0 (by omega) st T m tp tn tf tc _ _ 0 0 e0 ⟨by omega, hL, fun i hi => by rw [(zr i hi).1, (zr i hi).2]; exact ⟨rfl, rfl⟩, by rw [pcs_z (fun i hi => (zr i hi).1)], by rw [pcs_z (fun i hi => (zr i hi).2)]⟩ (fun i j hi hj => by rw [(zr i hi).1, (zr j hj).1, Nat.zero_testBit, Nat.zero_testBit]) hT (by omega) (by omega) hS z3 z4
    have ht := hS.2.2.2.1
    subst e0
    rw [le0_I (by omega) (by omega)]
    have b410 := sL_410 (tp := tp) (tl := tl) (Q := Q) hsn h1 h2 hI hK hT (by omega) hlen hS h3 h4 hQ
    refine ⟨fun _ => ⟨⟨Nat.le_refl _, Nat.le_refl _⟩, b410⟩, fun z => ⟨⟨by omega, by omega⟩, sL_draw (k := 6) (n := 5) hsn (by omega) (by omega) (by omega) ⟨fun _ => ⟨⟨Nat.le_refl _, Nat.le_refl _⟩, b410⟩, fun _ => ⟨⟨by omega, by omega⟩, sL_draw (k := 7) hsn (by omega) (by omega) (by omega) ⟨⟨Nat.le_refl _, Nat.le_refl _⟩, ?_⟩⟩⟩⟩⟩
    exact sL_411 hsn h1 h2 hI hK hT (by omega) hlen hS h3 h4 (Or.inr ⟨_, rfl, drw_lt (by omega)⟩) hQ
  · simp only [List.append_assoc, List.append_nil]
theorem sL_24 (hsn : sn < 2147483648) (h1 : 8 ≤ high) (h2 : high ≤ 100) {many : Nat} (h7 : many ≤ 7) (hI : IV s0 0 by_ cc pp d) (hQ : OKQ Q) : wp_L_load_b24 sn sx Q (iI (many : Nat)) (iI (high : Nat)) d := by
  have hmh : many * high + 20 ≤ 720 := by
    have : many * high ≤ 7 * 100 := Nat.mul_le_mul h7 h2
    omega
  unfold wp_L_load_b24
  rw [iI_mul, show ((many : Int) * (high : Int)) = ((many * high : Nat) : Int) by simp, show (20 : Int32) = iI ((20 : Nat) : Int) from rfl, iI_add, show (((many * high : Nat) : Int) + ((20 : Nat) : Int)) = ((many * high + 20 : Nat) : Int) by omega]
  have lc := drw_lt (sn := sn) (sx := sx) (k := 2) (n := many * high + 20) (by omega)
  have ll := drw_lt (sn := sn) (sx := sx) (k := 4) (n := 8) (by omega)
  have dc := dl_le (drw sn sx 2 (many * high + 20))
  refine ⟨⟨by omega, by omega⟩, 1, 25, ⟨by omega, by omega⟩, sb_init (S := lC1) (asc_of (by decide)) (by decide) (by omega) (by decide) fun tp2 tf2 hS2 => ⟨⟨by omega, by omega⟩, sL_draw (k := 2) hsn (by omega) (by omega) (by omega) ?_⟩⟩
  refine sb_I (v := drw sn sx 2 (many * high + 20)) (by omega) hS2 (by decide) 8 100 (by omega) (by omega) (by decide) (by decide) fun mb sb tp3 tn3 tf3 tc3 hS3 k1 k2 k3 => ?_
  refine sb_S (S := lL1) hS3 (asc_of (by decide)) (by simp only [List.length_append, List.length_cons, List.length_nil, dd_len]; omega) 8 100 (by omega) (by omega) k1 k2 fun mb sb tp4 tn4 tf4 tc4 hS4 k1 k2 k3 => ⟨k3, sL_draw (k := 3) (n := 2) hsn (by omega) (by omega) (by omega) ⟨fun _ => ⟨k3, sL_draw (k := 4) (n := 8) hsn (by omega) (by omega) (by omega) ⟨⟨k1, k2⟩, ?_⟩⟩, fun _ => ⟨⟨k1, k2⟩, ?_⟩⟩⟩
  · rw [List.append_assoc] at hS4
    exact sL_74 hsn h1 h2 h7 (by omega) (by omega) hI hS4 hQ
  · rw [List.append_assoc] at hS4
    exact sL_74 (l := 12) hsn h1 h2 h7 (by omega) (by omega) hI hS4 hQ
theorem sL_load (hsn : sn < 2147483648) (hI : IV s0 0 by_ cc pp d) (hQ : OKQ Q) : wp_L_load sn sx d Q := by
  have lm := drw_lt (sn := sn) (sx := sx) (k := 0) (n := 8) (by omega)
  unfold wp_L_load
  refine ⟨⟨by omega, by omega⟩, sL_draw (k := 0) (n := 8) hsn (by omega) (by omega) (by omega) ⟨⟨by omega, by omega⟩, sL_draw (k := 1) (n := 2) hsn (by omega) (by omega) (by omega) ⟨fun _ => ⟨⟨by omega, by omega⟩, ?_⟩, fun _ => ⟨⟨by omega, by omega⟩, ?_⟩⟩⟩⟩
  · exact sL_24 (high := 8) hsn (by omega) (by omega) (by omega) hI hQ
  · exact sL_24 (high := 100) hsn (by omega) (by omega) (by omega) hI hQ
end
