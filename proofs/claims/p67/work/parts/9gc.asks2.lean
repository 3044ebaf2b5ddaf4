/-! THE LAW ASKS: the loops -/
section
variable {s : Nat → Nat} {Q : Int32 → DT → Prop}
theorem jfv_mK {s : Nat → Nat} : jfv s (-1) = -1 := rfl
abbrev P8 (s : Nat → Nat) (g j : Nat) (n : Nat) : Bool := decide (PG (HH s) n = g ∧ PJ (HH s) n = (j : Int))
theorem HH_stQ (hW : WF s) : stP (HH s) := HS_stP hW (s 1) 0
theorem bts_bt {g j n : Nat} : bts (HH s) g j n = decide (bt (PG (HH s) n : Nat) (PJ (HH s) n) g j) := by
  unfold bts bt
  congr 1
theorem jfv_r (hW : WF s) {p : Nat → Bool} {d n : Nat} (h : n + d ≤ PN (HH s)) : -1 ≤ jfv s (ff p d n) ∧ jfv s (ff p d n) ≤ 1188 ∧ ∀ m, m < n → m < PN (HH s) → jfv s (ff p d n) < PJ (HH s) m ∨ jfv s (ff p d n) = -1 := by
  rcases ff_rng (p := p) (d := d) (n := n) with e | ⟨k, a, b, e⟩
  · rw [e, jfv_mK]
    exact ⟨by omega, by omega, fun m _ _ => Or.inr rfl⟩
  · rw [e, jfv_n]
    have := PJ_rng (HH_stQ hW) (n := k) (by omega)
    exact ⟨by omega, by omega, fun m hm hm2 => Or.inl (PJ_lt (HH_stQ hW) (by omega) (by omega))⟩
/-- the greatest gain so far -/
def gmx (s : Nat → Nat) (j : Nat) (m : Nat) : Int := if (m : Int) ≤ fl (gfp s (iI (j : Nat))) (PN (HH s)) then gfv s (fl (gfp s (iI (j : Nat))) (PN (HH s))) else -1
theorem gmx_step (hW : WF s) {j m : Nat} (hj : j ≤ 1188) (hm : m < PN (HH s)) : (if (j : Int) ≤ PJ (HH s) m then max (gmx s j (m + 1)) (PG (HH s) m : Int) else gmx s j (m + 1)) = gmx s j m := by
  have hr := fl_rngK (p := gfp s (iI (j : Nat))) (PN (HH s))
  have eg : gfp s (iI (j : Nat)) m = decide ((j : Int) ≤ PJ (HH s) m) := by
    unfold gfp
    rw [iI_toInt (by omega) (by omega)]
  have is := fl_is (p := gfp s (iI (j : Nat))) (n := PN (HH s)) (k := m)
  have ge := fl_geK (p := gfp s (iI (j : Nat))) (k := m) (n := PN (HH s))
  unfold gmx
  generalize fl (gfp s (iI (j : Nat))) (PN (HH s)) = F at hr is ge
  by_cases c : (j : Int) ≤ PJ (HH s) m
  · have g1 := ge (by rw [eg]; exact decide_eq_true c) hm
    rw [if_pos c, if_pos g1]
    by_cases e : ((m + 1 : Nat) : Int) ≤ F
    · rw [if_pos e]
      obtain ⟨k, hk⟩ : ∃ k : Nat, F = (k : Int) := ⟨F.toNat, by omega⟩
      subst hk
      rw [gfv_n]
      have := PG_lt (h := HH s) (a := m) (b := k) (by omega) (by omega)
      omega
    · rw [if_neg e]
      have e2 : F = (m : Int) := by omega
      rw [e2, gfv_n]
      omega
  · rw [if_neg c]
    have ne : F ≠ (m : Int) := fun z => by
      have := is z
      rw [eg, decide_eq_true_eq] at this
      exact c this
    by_cases e : ((m + 1 : Nat) : Int) ≤ F
    · rw [if_pos e, if_pos (by omega)]
    · rw [if_neg e, if_neg (by omega)]
theorem gmx_r (hW : WF s) {j m : Nat} : -1 ≤ gmx s j m ∧ gmx s j m ≤ 1188 := by
  have hr := fl_rngK (p := gfp s (iI (j : Nat))) (PN (HH s))
  unfold gmx
  generalize fl (gfp s (iI (j : Nat))) (PN (HH s)) = F at hr
  split
  · obtain ⟨k, hk⟩ : ∃ k : Nat, F = (k : Int) := ⟨F.toNat, by omega⟩
    subst hk
    rw [gfv_n]
    have := PG_rng (h := HH s) (n := k) (by omega)
    omega
  · omega
theorem gmx_0 {j : Nat} : gmx s j 0 = gfv s (fl (gfp s (iI (j : Nat))) (PN (HH s))) := by
  have hr := fl_rngK (p := gfp s (iI (j : Nat))) (PN (HH s))
  unfold gmx
  generalize fl (gfp s (iI (j : Nat))) (PN (HH s)) = F at hr
  split
  · rfl
  · have : F = -1 := by omega
    rw [this]; rfl
theorem gmx_N {j : Nat} : gmx s j (PN (HH s)) = -1 := by
  have hr := fl_rngK (p := gfp s (iI (j : Nat))) (PN (HH s))
  unfold gmx
  rw [if_neg (by omega)]
theorem sL_99 (hW : WF s) {n6 n10 : Nat} (h6 : n6 = PN (HH s)) (h10 : n10 = PN (HH s)) (hN : PN (HH s) ≤ 256) {x1 x2 x5 : Int32} {d : DT} {ta6 ta10 : Nat → Int32} (hta : ∀ n, n < PN (HH s) → ta6 n = iI (PG (HH s) n : Nat) ∧ ta10 n = iI (PJ (HH s) n)) {k237 : Int32 → Int32 → Int32 → Int32 → Int32 → Prop} {g j : Nat} (hg : g ≤ 1188) (hj : j ≤ 1188) (hk : k237 (iI (ff (P8 s g j) (PN (HH s)) 0)) (iI (ff (bts (HH s) g j) (PN (HH s)) 0)) (iI (fb_ct (bts (HH s) g j) (PN (HH s)) : Nat)) (iI (jfv s (ff (jfp s (iI (g : Nat))) (PN (HH s)) 0))) (iI (gfv s (fl (gfp s (iI (j : Nat))) (PN (HH s)))))) : ∀ (m e : Nat), m + e = PN (HH s) → wp_L_asks_L99 n6 n10 x1 x2 x5 (iI (g : Nat)) (iI (j : Nat)) d ta6 ta10 k237 Q (m + 1) (iI (ff (P8 s g j) e m)) (iI (ff (bts (HH s) g j) e m)) (iI (fb_ct (bts (HH s) g j) (PN (HH s)) - fb_ct (bts (HH s) g j) m : Nat)) (iI (jfv s (ff (jfp s (iI (g : Nat))) e m))) (iI (gmx s j m)) (iI ((m : Int) - 1)) := by
  intro m
  induction m with
  | zero =>
    intro e he
    unfold wp_L_asks_L99
    obtain rfl : e = PN (HH s) := by omega
    rw [lt0_I (by omega) (by omega), gmx_0]
    exact ⟨fun _ => hk, fun z => by omega⟩
  | succ m ih =>
    intro e he
    obtain ⟨t6, t10⟩ := hta m (by omega)
    have hP := PG_rng (h := HH s) (n := m) (by omega)
    have hR := PJ_rng (HH_stQ hW) (n := m) (by omega)
    obtain ⟨j1, j2, j3⟩ := jfv_r hW (p := jfp s (iI (g : Nat))) (d := e) (n := m + 1) (by omega)
    have g1 := gmx_r hW (j := j) (m := m + 1)
    have st := gmx_step hW hj (m := m) (by omega)
    unfold wp_L_asks_L99
    rw [show (((m + 1 : Nat) : Int) - 1) = (m : Int) by omega, lt0_I (by omega) (by omega)]
    refine ⟨fun z => by omega, fun _ => ?_⟩
    refine sL_99s (P := PG (HH s) m) (R := PJ (HH s) m) (by omega) (by omega) (by omega) t6 t10 hP hR hg hj (by omega) g1 ?_
    have next := ih (e + 1) (by omega)
    simp only [ff] at next
    have eb : (bts (HH s) g j m = true) ↔ bt (PG (HH s) m : Nat) (PJ (HH s) m) g j := by rw [bts_bt, decide_eq_true_eq]
    have e8 : (if PG (HH s) m = g ∧ PJ (HH s) m = (j : Int) then (m : Int) else ff (P8 s g j) e (m + 1)) = (if P8 s g j m = true then (m : Int) else ff (P8 s g j) e (m + 1)) := by
      by_cases c : PG (HH s) m = g ∧ PJ (HH s) m = (j : Int)
      · rw [if_pos c, if_pos (decide_eq_true c)]
      · rw [if_neg c, if_neg (by rw [decide_eq_true_eq]; exact c)]
    have e9 : (if bt (PG (HH s) m : Nat) (PJ (HH s) m) g j then (m : Int) else ff (bts (HH s) g j) e (m + 1)) = (if bts (HH s) g j m = true then (m : Int) else ff (bts (HH s) g j) e (m + 1)) := by
      by_cases c : bt (PG (HH s) m : Nat) (PJ (HH s) m) g j
      · rw [if_pos c, if_pos (eb.mpr c)]
      · rw [if_neg c, if_neg (fun z => c (eb.mp z))]
    have e10 : fb_ct (bts (HH s) g j) (PN (HH s)) - fb_ct (bts (HH s) g j) (m + 1) + (if bt (PG (HH s) m : Nat) (PJ (HH s) m) g j then 1 else 0) = fb_ct (bts (HH s) g j) (PN (HH s)) - fb_ct (bts (HH s) g j) m := by
      have mo := fb_ct_mono (bts (HH s) g j) (m := m + 1) (n := PN (HH s)) (by omega)
      rw [fb_ct_succ] at mo ⊢
      by_cases c : bt (PG (HH s) m : Nat) (PJ (HH s) m) g j
      · rw [if_pos (eb.mpr c)] at mo ⊢
        rw [if_pos c]
        omega
      · rw [if_neg (fun z => c (eb.mp z))] at mo ⊢
        rw [if_neg c]
        omega
    have ejp : (jfp s (iI (g : Nat)) m = true) ↔ g ≤ PG (HH s) m := by
      unfold jfp
      rw [iI_toInt (by omega) (by omega), decide_eq_true_eq]
      omega
    have e11 : (if g ≤ PG (HH s) m then max (jfv s (ff (jfp s (iI (g : Nat))) e (m + 1))) (PJ (HH s) m) else jfv s (ff (jfp s (iI (g : Nat))) e (m + 1))) = jfv s (if jfp s (iI (g : Nat)) m = true then (m : Int) else ff (jfp s (iI (g : Nat))) e (m + 1)) := by
      by_cases c : g ≤ PG (HH s) m
      · rw [if_pos c, if_pos (ejp.mpr c), jfv_n]
        rcases j3 m (by omega) (by omega) with y | y <;> omega
      · rw [if_neg c, if_neg (fun z => c (ejp.mp z))]
    rw [e8, e9, e10, e11, st]
    exact next
theorem ff_PB (hW : WF s) {q : Nat} : ff (P8 s (sm s 1 q (s 0)) (sm s 2 q (s 0))) (PN (HH s)) 0 = PB s (HH s) q := by
  have b : sm s 1 q (s 0) ≤ 1188 := sm_bd hW (by omega) q
  unfold PB
  by_cases c : HH s (sm s 1 q (s 0)) = (sm s 2 q (s 0) : Int)
  · rw [if_pos c]
    have hlt := PI_lt_N (h := HH s) (a := sm s 1 q (s 0)) (by omega) (by omega)
    have eg := PG_PI (h := HH s) (g := sm s 1 q (s 0)) (by omega) (by omega)
    refine ff_one (decide_eq_true ⟨eg, by unfold PJ; rw [eg]; exact c⟩) (fun i hi => ?_) (by omega) (by omega)
    refine decide_eq_false fun z => ?_
    have := PG_lt (h := HH s) hi hlt
    omega
  · rw [if_neg c]
    refine ff_none fun i _ hi => decide_eq_false fun z => ?_
    obtain ⟨z1, z2⟩ := z
    unfold PJ at z2
    rw [z1] at z2
    exact c z2
variable {nn : Nat} {by_ : Nat → Int} {cc pp : Int}
theorem sL_55 (hW : WF s) (h7 : s 0 ≤ 7) {n6 n10 : Nat} (h6 : n6 = PN (HH s)) (h10 : n10 = PN (HH s)) {ta6 ta10 : Nat → Int32} (hta : ∀ n, n < PN (HH s) → ta6 n = iI (PG (HH s) n : Nat) ∧ ta10 n = iI (PJ (HH s) n)) (hQ : ∀ d, IV s nn by_ cc pp d → Q 1 d) : ∀ (f q : Nat) (d : DT), 2 ^ s 0 ≤ q + f → q ≤ 300 → IV s nn by_ cc pp d → wp_L_asks_L55 n6 n10 (iI ((2 ^ s 0 : Nat) : Int)) (iI (PN (HH s) : Nat)) ta6 ta10 Q (f + 1) (iI (q : Nat)) d := by
  have hp := p2_7 h7
  have hN := PN_few hW
  intro f
  induction f with
  | zero =>
    intro q d hq hq2 hI
    unfold wp_L_asks_L55
    rw [iI_le (by omega) (by omega) (by omega) (by omega)]
    exact ⟨fun _ => hQ d hI, fun z => by omega⟩
  | succ f ih =>
    intro q d hq hq2 hI
    unfold wp_L_asks_L55
    rw [iI_le (by omega) (by omega) (by omega) (by omega)]
    refine ⟨fun _ => hQ d hI, fun z => ?_⟩
    have b1 : sm s 1 q (s 0) ≤ 1188 := sm_bd hW (by omega) q
    have b2 : sm s 2 q (s 0) ≤ 1188 := sm_bd hW (by omega) q
    refine sL_sum (w := 1) hI (by omega) (by omega) (sL_sum (w := 2) hI (by omega) (by omega) fun v97 h97 => ⟨PN (HH s) + 1, ?_⟩)
    rw [show (1 : Int32) = iI ((1 : Nat) : Int) from rfl, iI_sub] at h97
    subst h97
    have key := sL_99 (Q := Q) (x1 := iI ((2 ^ s 0 : Nat) : Int)) (x2 := iI (PN (HH s) : Nat)) (x5 := iI (q : Nat)) (d := d) hW h6 h10 (by omega) hta (k237 := fun (x8 : Int32) (x9 : Int32) (x10 : Int32) (x11 : Int32) (x12 : Int32) => wpK_X10_pointOf (iI (q : Nat)) d (fun (r240 : Int32) (u240_6 : DT) => (¬ r240 = x8 → (Q (0 : Int32) u240_6)) ∧ (r240 = x8 → (wpK_X10_beatenBy (iI (q : Nat)) u240_6 (fun (r251 : Int32) (u251_7 : DT) => (¬ r251 = x9 → (Q (0 : Int32) u251_7)) ∧ (r251 = x9 → (wpK_X10_beating (iI (sm s 1 q (s 0) : Nat)) (iI (sm s 2 q (s 0) : Nat)) u251_7 (fun (r264 : Int32) (u264_8 : DT) => (¬ r264 = x10 → (Q (0 : Int32) u264_8)) ∧ (r264 = x10 → (wpK_X10_joyFor (iI (sm s 1 q (s 0) : Nat)) u264_8 (fun (r275 : Int32) (u275_9 : DT) => (¬ r275 = x11 → (Q (0 : Int32) u275_9)) ∧ (r275 = x11 → (wpK_X10_gainFor (iI (sm s 2 q (s 0) : Nat)) u275_9 (fun (r286 : Int32) (u286_10 : DT) => (r286 = x12 → (∀ v306 : Int32, v306 = (iI (q : Nat)) + ((1 : Int32) + ((iI (q : Nat)) / (8 : Int32))) → (wp_L_asks_L55 n6 n10 (iI ((2 ^ s 0 : Nat) : Int)) (iI (PN (HH s) : Nat)) ta6 ta10 Q (f + 1) v306 u286_10))) ∧ (¬ r286 = x12 → (Q (0 : Int32) u286_10)))))))))))))))) (g := sm s 1 q (s 0)) (j := sm s 2 q (s 0)) b1 b2 ?_ (PN (HH s)) 0 (by omega)
    · simp only [ff, jfv_mK, gmx_N, Nat.sub_self, ← iI_m1] at key
      exact key
    · refine sN_pointOf hI (by omega) fun d2 hI2 => ?_
      rw [ff_PB hW]
      refine ⟨fun z => absurd rfl z, fun _ => sN_beatenBy hI2 (by omega) fun d3 hI3 => ⟨fun z => absurd rfl z, fun _ => sK_beating hI3 fun d4 hI4 => ⟨fun z => ?_, fun _ => sK_joyFor hI4 fun d5 hI5 => ⟨fun z => absurd rfl z, fun _ => sK_gainFor hI5 fun d6 hI6 => ⟨fun _ v306 h306 => ?_, fun z => absurd rfl z⟩⟩⟩⟩⟩
      · refine absurd ?_ z
        unfold btc
        rw [iI_toInt (by omega) (by omega), iI_toInt (by omega) (by omega)]
      · rw [show (8 : Int32) = iI ((8 : Nat) : Int) from rfl, iI_divN (by omega) (by omega) (by omega), show (1 : Int32) = iI ((1 : Nat) : Int) from rfl, iI_add, iI_add] at h306
        subst h306
        have := ih (q + (1 + q / 8)) d6 (by omega) (by omega) hI6
        exact this
theorem sL_17 (hW : WF s) (hN : PN (HH s) ≤ 256) {n6 n10 : Nat} (h6 : n6 = PN (HH s)) (h10 : n10 = PN (HH s)) {x1 : Int32} {k52 : DT → (Nat → Int32) → (Nat → Int32) → Prop} (hk : ∀ d ta6 ta10, IV s nn by_ cc pp d → (∀ n, n < PN (HH s) → ta6 n = iI (PG (HH s) n : Nat) ∧ ta10 n = iI (PJ (HH s) n)) → k52 d ta6 ta10) : ∀ (f n : Nat) (d : DT) (ta6 ta10 : Nat → Int32), n + f = PN (HH s) → IV s nn by_ cc pp d → (∀ i, i < n → ta6 i = iI (PG (HH s) i : Nat) ∧ ta10 i = iI (PJ (HH s) i)) → wp_L_asks_L17 n6 n10 x1 (iI (PN (HH s) : Nat)) k52 Q (f + 1) (iI (n : Nat)) d ta6 ta10 := by
  intro f
  induction f with
  | zero =>
    intro n d ta6 ta10 hn hI h
    unfold wp_L_asks_L17
    obtain rfl : n = PN (HH s) := by omega
    exact ⟨fun _ => hk d ta6 ta10 hI h, fun z => absurd (Int32.le_refl _) z⟩
  | succ f ih =>
    intro n d ta6 ta10 hn hI h
    unfold wp_L_asks_L17
    rw [iI_le (by omega) (by omega) (by omega) (by omega), iI_clN (by omega), iI_succ]
    refine ⟨fun z => by omega, fun _ => sN_point (w := 0) hI (by omega) (by omega) fun d2 hI2 => ⟨iI_inN (by omega) (by omega), sN_point (w := 1) hI2 (by omega) (by omega) fun d3 hI3 => ⟨iI_inN (by omega) (by omega), ih (n + 1) d3 _ _ (by omega) hI3 fun i hi => ?_⟩⟩⟩
    by_cases e : i = n
    · subst e
      rw [pk_us, pk_us]
      exact ⟨rfl, rfl⟩
    · rw [pk_un e, pk_un e]
      exact h i (by omega)
theorem sL_asks (hW : WF s) (h7 : s 0 ≤ 7) {d : DT} (hI : IV s nn by_ cc pp d) (hQ : ∀ d, IV s nn by_ cc pp d → Q 1 d) : wp_L_asks (iI ((2 ^ s 0 : Nat) : Int)) d Q := by
  have hp := p2_7 h7
  have hN := PN_few hW
  unfold wp_L_asks
  refine sK_points hI fun d2 hI2 => ?_
  rw [lt0_I (by omega) (by omega), iI_clN (by omega)]
  refine ⟨by omega, fun n6 h6 => ⟨by omega, by omega, fun n10 h10 => ⟨by omega, PN (HH s) + 1, ?_⟩⟩⟩
  refine sL_17 hW (by omega) h6.symm h10.symm (fun d ta6 ta10 hI hta => ⟨2 ^ s 0 + 1, sL_55 hW h7 h6.symm h10.symm hta hQ (2 ^ s 0) 0 d (by omega) (by omega) hI⟩) (PN (HH s)) 0 d2 _ _ (by omega) hI2 (fun i hi => absurd hi (Nat.not_lt_zero _))
end
