/-! THE STAIRS: for each gain the joy of the point that has it, -1 where none has it -/
def okS (s : Nat → Nat) (cap wo : Nat) (set : Nat) : Bool := decide (rf s cap set = 0) && decide (set &&& wo = 0)
def ja (ok : Nat → Bool) (gn jn : Nat → Nat) : Nat → Nat → Int
  | 0, _ => -1
  | m + 1, g => if ok m = true ∧ g = gn m then max (ja ok gn jn m g) (jn m) else ja ok gn jn m g
theorem ja_rng {ok : Nat → Bool} {gn jn : Nat → Nat} (h : ∀ m, jn m ≤ 1188) : ∀ m g, -1 ≤ ja ok gn jn m g ∧ ja ok gn jn m g ≤ 1188
  | 0, g => by simp only [ja]; omega
  | m + 1, g => by
    have h1 := ja_rng (ok := ok) (gn := gn) h m g
    have h2 := h m
    simp only [ja]
    split <;> omega
/-- the greatest of the top d places of a row of 1189 -/
def mxa (f : Nat → Int) : Nat → Int
  | 0 => -1
  | d + 1 => max (mxa f d) (f (1188 - d))
def stair (f : Nat → Int) (g : Nat) : Int := if mxa f (1188 - g) < f g then f g else -1
theorem mxa_rng {f : Nat → Int} (h : ∀ g, -1 ≤ f g ∧ f g ≤ 1188) : ∀ d, -1 ≤ mxa f d ∧ mxa f d ≤ 1188
  | 0 => by simp only [mxa]; omega
  | d + 1 => by
    have h1 := mxa_rng h d
    have h2 := h (1188 - d)
    simp only [mxa]
    omega
theorem stair_rng {f : Nat → Int} (h : ∀ g, -1 ≤ f g ∧ f g ≤ 1188) (g : Nat) : -1 ≤ stair f g ∧ stair f g ≤ 1188 := by
  have h2 := h g
  unfold stair
  split <;> omega
theorem iI_m1 : (-1 : Int32) = iI (-1) := by decide +kernel
theorem in_lit {n N : Nat} (h : n < N) (h2 : N < 2147483648) : vp_in (iI (n : Nat)) N := iI_inN h (by omega)
theorem sp_fill {t0 : Nat → Int32} {v : Int32} {Q : (Nat → Int32) → Prop} (hQ : ∀ f : Nat → Int32, (∀ g, g < 1189 → f g = v) → Q f) : wp_J7_fill_53178 v t0 Q := by
  have key : ∀ (d x : Nat) (f : Nat → Int32), x + d = 1189 → (∀ g, g < x → f g = v) → wp_J7_fill_53178_L5 v (1189 : Int32) Q (d + 1) (iI (x : Nat)) f := by
    intro d
    induction d with
    | zero =>
      intro x f hx hI
      unfold wp_J7_fill_53178_L5
      obtain rfl : x = 1189 := by omega
      exact ⟨fun _ => hQ f hI, fun c => absurd (by decide) c⟩
    | succ d ih =>
      intro x f hx hI
      unfold wp_J7_fill_53178_L5
      rw [iI_lit 1189, iI_le (by omega) (by omega) (by omega) (by omega), iI_clN (by omega), iI_succ]
      exact ⟨fun c => absurd c (by omega), fun _ => ⟨in_lit (by omega) (by omega), ih (x + 1) _ (by omega) (upd_ext (F := fun _ => v) hI rfl)⟩⟩
  exact ⟨1190, by rw [iI_lit 0]; exact key 1189 0 t0 (by omega) (fun g hg => absurd hg (by omega))⟩
theorem sp_keep {g j : Nat} (hg : g ≤ 1188) (hj : j ≤ 1188) {f : Nat → Int32} {v : Int} (hv : f g = iI v) (hv1 : -1 ≤ v) (hv2 : v ≤ 1188) {Q : (Nat → Int32) → Prop} (hQ : ∀ f' : Nat → Int32, (∀ k, f' k = if k = g then iI (max v j) else f k) → Q f') : wp_X9_keepGreatest (iI (g : Nat)) (iI (j : Nat)) f Q := by
  unfold wp_X9_keepGreatest
  rw [iI_lit 1189, iI_lit 0, iI_lt (by omega) (by omega) (by omega) (by omega), iI_le (by omega) (by omega) (by omega) (by omega), iI_clN (by omega), hv, iI_le (by omega) (by omega) (by omega) (by omega)]
  refine ⟨fun c => absurd c (by omega), fun _ => ⟨fun c => absurd c (by omega), fun _ => ⟨in_lit (by omega) (by omega), fun c => hQ _ fun k => ?_, fun c => ⟨in_lit (by omega) (by omega), hQ _ fun k => ?_⟩⟩⟩⟩
  · by_cases e : k = g
    · rw [if_pos e, e, hv, show max v (j : Int) = v by omega]
    · rw [if_neg e]
  · by_cases e : k = g
    · rw [if_pos e, e, pk_us, show max v (j : Int) = j by omega]
    · rw [if_neg e, pk_un e]
theorem sp_drop {f : Nat → Int32} {F : Nat → Int} (hF : ∀ g, g < 1189 → f g = iI (F g)) (hr : ∀ g, -1 ≤ F g ∧ F g ≤ 1188) {Q : (Nat → Int32) → Prop} (hQ : ∀ f' : Nat → Int32, (∀ g, g < 1189 → f' g = iI (stair F g)) → Q f') : wp_X9_dropBeaten f Q := by
  have key : ∀ (m d : Nat) (x : Int32) (a : Nat → Int32), d + m = 1189 → x = iI (1188 - (d : Int)) → (∀ g, g < m → a g = iI (F g)) → (∀ g, m ≤ g → g < 1189 → a g = iI (stair F g)) → wp_X9_dropBeaten_L6 Q (m + 1) (iI (mxa F d)) x a := by
    intro m
    induction m with
    | zero =>
      intro d x a hd hx h1 h2
      subst hx
      unfold wp_X9_dropBeaten_L6
      rw [iI_lit 0, iI_lt (by omega) (by omega) (by omega) (by omega)]
      exact ⟨fun _ => hQ a fun g hg => h2 g (by omega) hg, fun c => absurd (by omega) c⟩
    | succ m ih =>
      intro d x a hd hx h1 h2
      obtain rfl : x = iI (m : Nat) := by rw [hx]; congr 1; omega
      have hm := mxa_rng hr d
      have hf := hr m
      unfold wp_X9_dropBeaten_L6
      rw [iI_clN (by omega), h1 m (by omega), iI_le (by omega) (by omega) (by omega) (by omega), iI_lit 0, iI_lt (by omega) (by omega) (by omega) (by omega)]
      have en : iI (m : Nat) + (-1) = iI (1188 - ((d + 1 : Nat) : Int)) := by rw [iI_m1, iI_add]; exact congrArg iI (by omega)
      have hi : vp_in (iI (m : Nat)) 1189 := in_lit (by omega) (by omega)
      have e1 : mxa F (d + 1) = max (mxa F d) (F m) := by simp only [mxa]; rw [show 1188 - d = m by omega]
      have e2 : stair F m = if mxa F d < F m then F m else -1 := by unfold stair; rw [show 1188 - m = d by omega]
      rw [en]
      refine ⟨fun c => absurd c (by omega), fun _ => ⟨hi, fun c => ⟨hi, ?_⟩, fun c => ⟨hi, fun v hv => ?_⟩⟩⟩
      · have := ih (d + 1) _ (upd a m (-1 : Int32)) (by omega) rfl (fun g hg => by rw [pk_un (by omega)]; exact h1 g (by omega)) (fun g hg hg2 => by
          by_cases e : g = m
          · rw [e, pk_us, e2, if_neg (by omega), iI_m1]
          · rw [pk_un e]; exact h2 g (by omega) hg2)
        rw [e1, show max (mxa F d) (F m) = mxa F d by omega] at this
        exact this
      · subst hv
        have := ih (d + 1) _ a (by omega) rfl (fun g hg => h1 g (by omega)) (fun g hg hg2 => by
          by_cases e : g = m
          · rw [e, h1 m (by omega), e2, if_pos (by omega)]
          · exact h2 g (by omega) hg2)
        rw [e1, show max (mxa F d) (F m) = F m by omega] at this
        exact this
  unfold wp_X9_dropBeaten
  refine ⟨1190, ?_⟩
  have := key 1189 0 (1188 : Int32) f (by omega) (by rw [iI_lit 1188]; rfl) hF (fun g hg hg2 => absurd hg (by omega))
  simp only [mxa] at this
  rw [iI_m1]
  exact this
theorem fa_ct_no' {p : Nat → Bool} {n : Nat} (h : p n = false) : fb_ct p (n + 1) = fb_ct p n := by rw [fb_ct_succ, h]; rfl
theorem fa_ct_yes' {p : Nat → Bool} {n : Nat} (h : p n = true) : fb_ct p (n + 1) = fb_ct p n + 1 := by rw [fb_ct_succ, h]; rfl
/-- the rows of the sets below m are in the stairs -/
theorem sp_stairs {s : Nat → Nat} (hW : WF s) {cap wo : Nat} (hcap : cap ≤ 999) (hwo : wo < 4096) {t_allowedCount sets lim must nev : Int32} {t_joyAt weight gain joy barred needed : Nat → Int32} (hP : chP s sets lim must nev weight gain joy barred needed)
    {Q : Int32 → (Nat → Int32) → Prop} (hQ : ∀ f' : Nat → Int32, (∀ g, g < 1189 → f' g = iI (stair (ja (okS s cap wo) (fun q => sm s 1 q (s 0)) (fun q => sm s 2 q (s 0)) (2 ^ s 0)) g)) → Q (iI (fb_ct (okS s cap wo) (2 ^ s 0) : Nat)) f') :
    wp_X9_build (iI (cap : Nat)) (iI (wo : Nat)) t_allowedCount t_joyAt sets lim must nev weight barred needed gain joy Q := by
  have hp := wf_pow hW
  have hp0 := Nat.two_pow_pos (s 0)
  have hjb : ∀ m, (fun q => sm s 2 q (s 0)) m ≤ 1188 := fun m => sm_bd hW (by omega) m
  obtain ⟨p1, p2, p3, p4, p5, p6, p7, p8, p9⟩ := id hP
  have fin : ∀ (f : Nat → Int32), (∀ g, g < 1189 → f g = iI (ja (okS s cap wo) (fun q => sm s 1 q (s 0)) (fun q => sm s 2 q (s 0)) (2 ^ s 0) g)) → wp_X9_build_b84 sets lim must nev weight barred needed gain joy Q (iI (fb_ct (okS s cap wo) (2 ^ s 0) : Nat)) f := by
    intro f hf
    unfold wp_X9_build_b84
    exact sp_drop hf (ja_rng hjb _) fun f' h' => hQ f' h'
  have key : ∀ (d x : Nat) (f : Nat → Int32), x + d = 2 ^ s 0 → (∀ g, g < 1189 → f g = iI (ja (okS s cap wo) (fun q => sm s 1 q (s 0)) (fun q => sm s 2 q (s 0)) x g)) → wp_X9_build_L16 sets lim must nev weight barred needed gain joy (iI (cap : Nat)) (iI (wo : Nat)) Q (d + 1) (iI (x : Nat)) (iI (fb_ct (okS s cap wo) x : Nat)) f := by
    intro d
    induction d with
    | zero =>
      intro x f hx hf
      unfold wp_X9_build_L16
      obtain rfl : x = 2 ^ s 0 := by omega
      rw [p1, iI_le (by omega) (by omega) (by omega) (by omega), ← p1]
      exact ⟨fun _ => fin f hf, fun c => absurd (Int.le_refl _) c⟩
    | succ d ih =>
      intro x f hx hf
      unfold wp_X9_build_L16
      have e0 : sets ≤ iI (x : Nat) ↔ ((2 ^ s 0 : Nat) : Int) ≤ (x : Int) := by rw [p1, iI_le (by omega) (by omega) (by omega) (by omega)]
      have e1 : (4096 : Int32) ≤ iI (x : Nat) ↔ ((4096 : Nat) : Int) ≤ (x : Int) := by rw [iI_lit 4096, iI_le (by omega) (by omega) (by omega) (by omega)]
      have e2 : iI (x : Nat) &&& iI (wo : Nat) = 0 ↔ x &&& wo = 0 := by rw [iI_and]; exact iI_z (Nat.lt_of_le_of_lt Nat.and_le_right hwo)
      have hr := rf_le s cap x
      rw [e0, e1, e2, iI_succ]
      refine ⟨fun c => absurd c (by omega), fun _ => ⟨fun c => absurd c (by omega), fun _ => ⟨fun c => ?_, fun c => ?_⟩⟩⟩
      · have ho : okS s cap wo x = false := by unfold okS; rw [decide_eq_false c]; simp
        have := ih (x + 1) f (by omega) (fun g hg => by rw [hf g hg]; simp only [ja, ho]; simp)
        rw [fa_ct_no' ho] at this
        exact this
      · refine sp_reason hW hcap (by omega) hP ?_
        rw [iI_z (by omega)]
        refine ⟨fun c2 => ?_, fun c2 => ⟨in_lit (by omega) (by omega), in_lit (by omega) (by omega), ?_⟩⟩
        · have ho : okS s cap wo x = false := by unfold okS; rw [decide_eq_false c2]; simp
          have := ih (x + 1) f (by omega) (fun g hg => by rw [hf g hg]; simp only [ja, ho]; simp)
          rw [fa_ct_no' ho] at this
          exact this
        · have ho : okS s cap wo x = true := by unfold okS; rw [decide_eq_true c2, decide_eq_true c]; rfl
          have hgb : sm s 1 x (s 0) ≤ 1188 := sm_bd hW (by omega) x
          have hj2 : sm s 2 x (s 0) ≤ 1188 := sm_bd hW (by omega) x
          have hrn := ja_rng (ok := okS s cap wo) (gn := fun q => sm s 1 q (s 0)) hjb x (sm s 1 x (s 0))
          rw [iI_clN (by omega), p6 x (by omega), p7 x (by omega)]
          refine sp_keep hgb hj2 (hf _ (by omega)) hrn.1 hrn.2 fun f' h' => ?_
          have := ih (x + 1) f' (by omega) (fun g hg => by
            rw [h' g, hf g hg]
            simp only [ja, ho, true_and]
            by_cases e : g = sm s 1 x (s 0)
            · rw [if_pos e, if_pos e, e]
            · rw [if_neg e, if_neg e])
          rw [fa_ct_yes' ho] at this
          rw [iI_lit 1, iI_add]
          exact this
  unfold wp_X9_build
  rw [iI_m1]
  refine sp_fill fun f hf => ⟨2 ^ s 0 + 1, ?_⟩
  have := key (2 ^ s 0) 0 f (by omega) (fun g hg => hf g hg)
  simp only [fb_ct] at this
  rw [iI_lit 0]
  exact this
