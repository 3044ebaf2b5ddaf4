/-- the setup's stairs: at a capacity, without the items of a set -/
def JA (s : Nat → Nat) (cap wo : Nat) : Nat → Int := ja (okS s cap wo) (fun q => sm s 1 q (s 0)) (fun q => sm s 2 q (s 0)) (2 ^ s 0)
def HS (s : Nat → Nat) (cap wo : Nat) : Nat → Int := stair (JA s cap wo)
theorem JA_rng {s : Nat → Nat} (hW : WF s) (cap wo g : Nat) : -1 ≤ JA s cap wo g ∧ JA s cap wo g ≤ 1188 := ja_rng (fun m => sm_bd hW (w := 2) (by omega) m) _ _
theorem HS_stP {s : Nat → Nat} (hW : WF s) (cap wo : Nat) : stP (HS s cap wo) := stair_stP (JA_rng hW cap wo)
theorem sp_layJoys {s : Nat → Nat} (hW : WF s) {row : Nat → Int32} (hN : neP s row) {am : Int32} {t_joyAt : Nat → Int32} {Q : Int32 → (Nat → Int32) → Prop} (hQ : ∀ f : Nat → Int32, (∀ g, g < 1189 → f g = iI (JA s (s 1) 0 g)) → Q (iI (fb_ct (okS s (s 1) 0) (2 ^ s 0) : Nat)) f) : wp_X11_layJoys am t_joyAt row Q := by
  have hp := wf_pow hW
  have hp0 := Nat.two_pow_pos (s 0)
  have hjb : ∀ m, (fun q => sm s 2 q (s 0)) m ≤ 1188 := fun m => sm_bd hW (by omega) m
  have k2 : ∀ (d x : Nat) (f : Nat → Int32), x + d = 2 ^ s 0 → (∀ g, g < 1189 → f g = iI (ja (okS s (s 1) 0) (fun q => sm s 1 q (s 0)) (fun q => sm s 2 q (s 0)) x g)) → wp_X11_layJoys_L29 row Q (d + 1) (iI (x : Nat)) (iI (fb_ct (okS s (s 1) 0) x : Nat)) f := by
    intro d
    induction d with
    | zero =>
      intro x f hx hf
      unfold wp_X11_layJoys_L29
      refine sp_allSets hW hN ?_
      obtain rfl : x = 2 ^ s 0 := by omega
      rw [iI_le (by omega) (by omega) (by omega) (by omega)]
      exact ⟨fun _ => hQ f hf, fun c => absurd (Int.le_refl _) c⟩
    | succ d ih =>
      intro x f hx hf
      unfold wp_X11_layJoys_L29
      refine sp_allSets hW hN ?_
      rw [iI_le (by omega) (by omega) (by omega) (by omega), iI_succ]
      refine ⟨fun c => absurd c (by omega), fun _ => sp_isAllowed hW hN (by omega) ?_⟩
      by_cases c : rf s (s 1) x = 0
      · rw [if_pos c]
        have ho : okS s (s 1) 0 x = true := by unfold okS; rw [decide_eq_true c, decide_eq_true (Nat.and_zero x)]; rfl
        have hgb : sm s 1 x (s 0) ≤ 1188 := sm_bd hW (by omega) x
        have hj2 : sm s 2 x (s 0) ≤ 1188 := sm_bd hW (by omega) x
        have hrn := ja_rng (ok := okS s (s 1) 0) (gn := fun q => sm s 1 q (s 0)) hjb x (sm s 1 x (s 0))
        refine ⟨fun _ => sp_sumOf (w := 1) hW hN (by omega) (by omega) ⟨in_lit (by omega) (by omega), sp_sumOf (w := 2) hW hN (by omega) (by omega) ⟨in_lit (by omega) (by omega), ?_⟩⟩, fun z => absurd z (by decide)⟩
        have := ih (x + 1) (upd f (sm s 1 x (s 0)) (iI (max (ja (okS s (s 1) 0) (fun q => sm s 1 q (s 0)) (fun q => sm s 2 q (s 0)) x (sm s 1 x (s 0))) (sm s 2 x (s 0))))) (by omega) (fun g hg => by
          simp only [ja, ho, true_and]
          by_cases e : g = sm s 1 x (s 0)
          · rw [if_pos e, e, pk_us]
          · rw [if_neg e, pk_un e, hf g hg])
        rw [fa_ct_yes' ho] at this
        rw [iI_clN (by omega), hf _ (by omega), iI_mx (by omega) (by omega) (by omega) (by omega), iI_lit 1, iI_add]
        exact this
      · rw [if_neg c]
        have ho : okS s (s 1) 0 x = false := by unfold okS; rw [decide_eq_false c]; rfl
        refine ⟨fun z => absurd rfl z, fun _ => ?_⟩
        have := ih (x + 1) f (by omega) (fun g hg => by rw [hf g hg]; simp only [ja, ho]; simp)
        rw [fa_ct_no' ho] at this
        exact this
  have k1 : ∀ (d x : Nat) (f : Nat → Int32), x + d = 1189 → (∀ g, g < x → f g = iI (-1)) → wp_X11_layJoys_L7 row (0 : Int32) (fun (t_joyAt : Nat → Int32) => ∃ n29, wp_X11_layJoys_L29 row Q n29 (0 : Int32) (0 : Int32) t_joyAt) Q (d + 1) (iI (x : Nat)) f := by
    intro d
    induction d with
    | zero =>
      intro x f hx hI
      unfold wp_X11_layJoys_L7
      obtain rfl : x = 1189 := by omega
      refine ⟨fun _ => ⟨2 ^ s 0 + 1, ?_⟩, fun c => absurd (by decide) c⟩
      have := k2 (2 ^ s 0) 0 f (by omega) (fun g hg => hI g hg)
      simp only [fb_ct] at this
      rw [iI_lit 0]
      exact this
    | succ d ih =>
      intro x f hx hI
      unfold wp_X11_layJoys_L7
      rw [iI_lit 1189, iI_le (by omega) (by omega) (by omega) (by omega), iI_clN (by omega), iI_succ, iI_m1]
      exact ⟨fun c => absurd c (by omega), fun _ => ⟨in_lit (by omega) (by omega), ih (x + 1) _ (by omega) (upd_ext (F := fun _ => iI (-1)) hI rfl)⟩⟩
  unfold wp_X11_layJoys
  exact ⟨1190, by rw [iI_lit 0]; exact k1 1189 0 t_joyAt (by omega) (fun g hg => absurd hg (by omega))⟩
theorem sp_layGains {F : Nat → Int} (hr : ∀ g, -1 ≤ F g ∧ F g ≤ 1188) {f : Nat → Int32} (hF : ∀ g, g < 1189 → f g = iI (F g)) {pm : Int32} {Q : Int32 → (Nat → Int32) → Prop} (hQ : ∀ f' : Nat → Int32, (∀ g, g < 1189 → f' g = iI (stair F g)) → Q (iI (PN (stair F) : Nat)) f') : wp_X11_layGains pm f Q := by
  have key : ∀ (m d : Nat) (x : Int32) (c : Nat) (a : Nat → Int32), d + m = 1189 → x = iI (1188 - (d : Int)) → c + PI (stair F) m = PN (stair F) → (∀ g, g < m → a g = iI (F g)) → (∀ g, m ≤ g → g < 1189 → a g = iI (stair F g)) → wp_X11_layGains_L11 Q (m + 1) (iI (mxa F d)) x (iI (c : Nat)) a := by
    intro m
    induction m with
    | zero =>
      intro d x c a hd hx hc h1 h2
      subst hx
      unfold wp_X11_layGains_L11
      rw [iI_lit 0, iI_lt (by omega) (by omega) (by omega) (by omega)]
      obtain rfl : c = PN (stair F) := by
        have : PI (stair F) 0 = 0 := rfl
        omega
      exact ⟨fun _ => hQ a fun g hg => h2 g (by omega) hg, fun c => absurd (by omega) c⟩
    | succ m ih =>
      intro d x c a hd hx hc h1 h2
      obtain rfl : x = iI (m : Nat) := by rw [hx]; exact congrArg iI (by omega)
      have hm := mxa_rng hr d
      have hf := hr m
      unfold wp_X11_layGains_L11
      have en : iI (m : Nat) + (-1) = iI (1188 - ((d + 1 : Nat) : Int)) := by rw [iI_m1, iI_add]; exact congrArg iI (by omega)
      have hi : vp_in (iI (m : Nat)) 1189 := in_lit (by omega) (by omega)
      have e1 : mxa F (d + 1) = max (mxa F d) (F m) := by simp only [mxa]; rw [show 1188 - d = m by omega]
      have e2 : stair F m = if mxa F d < F m then F m else -1 := by unfold stair; rw [show 1188 - m = d by omega]
      rw [en, iI_clN (by omega), h1 m (by omega), iI_le (by omega) (by omega) (by omega) (by omega), iI_lit 0, iI_lt (by omega) (by omega) (by omega) (by omega), iI_mx (by omega) (by omega) (by omega) (by omega)]
      refine ⟨fun c => absurd c (by omega), fun _ => ⟨hi, fun c1 => ⟨hi, fun v hv => ⟨hi, ?_⟩⟩, fun c1 => ⟨hi, fun v hv => ⟨hi, hi, ?_⟩⟩⟩⟩
      · rw [show max (mxa F d) (F m) = mxa F d by omega] at hv
        subst hv
        have h3 : stair F m = -1 := by rw [e2, if_neg (by omega)]
        have := ih (d + 1) _ c (upd a m (-1 : Int32)) (by omega) rfl (by rw [PI_skip h3] at hc; exact hc) (fun g hg => by rw [pk_un (by omega)]; exact h1 g (by omega)) (fun g hg hg2 => by
          by_cases e : g = m
          · rw [e, pk_us, h3, iI_m1]
          · rw [pk_un e]; exact h2 g (by omega) hg2)
        rw [e1, show max (mxa F d) (F m) = mxa F d by omega] at this
        rw [iI_add]
        exact this
      · rw [show max (mxa F d) (F m) = F m by omega] at hv
        subst hv
        have h3 : stair F m = F m := by rw [e2, if_pos (by omega)]
        have := ih (d + 1) _ (c + 1) (upd a m (iI (F m))) (by omega) rfl (by rw [PI_succ (by omega)] at hc; omega) (fun g hg => by rw [pk_un (by omega)]; exact h1 g (by omega)) (fun g hg hg2 => by
          by_cases e : g = m
          · rw [e, pk_us, h3]
          · rw [pk_un e]; exact h2 g (by omega) hg2)
        rw [e1, show max (mxa F d) (F m) = F m by omega] at this
        rw [iI_lit 1, iI_add]
        exact this
  unfold wp_X11_layGains
  refine ⟨1190, ?_⟩
  have := key 1189 0 (1188 : Int32) 0 f (by omega) (by rw [iI_lit 1188]; rfl) (by unfold PN PI; omega) hF (fun g hg hg2 => absurd hg (by omega))
  simp only [mxa] at this
  rw [iI_m1, iI_lit 0]
  exact this
/-- what the reference's rows of points hold -/
def mpP (s : Nat → Nat) (cap wo : Nat) (am pm : Int32) (joyAt pa pg pj : Nat → Int32) : Prop :=
  am = iI (fb_ct (okS s cap wo) (2 ^ s 0) : Nat) ∧ pm = iI (PN (HS s cap wo) : Nat) ∧ (∀ g, g < 1189 → joyAt g = iI (HS s cap wo g)) ∧ ptA (HS s cap wo) pa ∧ ptG (HS s cap wo) pg pj
theorem sp_layPoints {s : Nat → Nat} (hW : WF s) {row : Nat → Int32} (hN : neP s row) {am pm : Int32} {t_joyAt pa pg pj pt : Nat → Int32} {Q : Int32 → Int32 → (Nat → Int32) → (Nat → Int32) → (Nat → Int32) → (Nat → Int32) → (Nat → Int32) → Prop}
    (hQ : ∀ am pm ja pa pg pj pt, mpP s (s 1) 0 am pm ja pa pg pj → (∀ n, n < PN (HS s (s 1) 0) → pt n = 0) → Q am pm ja pa pg pj pt) : wp_X11_layPoints am pm t_joyAt row pa pg pj pt Q := by
  have hs := HS_stP hW (s 1) 0
  unfold wp_X11_layPoints
  refine sp_layJoys hW hN fun f hf => sp_layGains (JA_rng hW (s 1) 0) hf fun f' hf' => ⟨1190, ?_⟩
  have hf2 : ∀ g, g < 1189 → f' g = iI (HS s (s 1) 0 g) := hf'
  have hpn : PN (stair (JA s (s 1) 0)) = PN (HS s (s 1) 0) := rfl
  rw [hpn]
  generalize hh : HS s (s 1) 0 = h at hs hf2 hpn hQ ⊢
  have key : ∀ (d x : Nat) (pa g j t : Nat → Int32), x + d = 1189 → (∀ k, k < x → pa k = iI (if h k = -1 then -1 else (PI h k : Int))) → laid h x (fun k => iI (k : Nat)) g → laid h x (fun k => iI (h k)) j → laid h x (fun _ => 0) t →
      wp_X11_layPoints_L12 row (iI (fb_ct (okS s (s 1) 0) (2 ^ s 0) : Nat)) (iI (PN h : Nat)) f' Q (d + 1) (iI (PI h x : Nat)) (iI (x : Nat)) pa g j t := by
    intro d
    induction d with
    | zero =>
      intro x pa g j t hx hpa hg hjj ht
      unfold wp_X11_layPoints_L12
      obtain rfl : x = 1189 := by omega
      refine ⟨fun _ => hQ _ _ _ _ _ _ _ ⟨rfl, by rw [hh], by rw [hh]; exact hf2, by rw [hh]; exact hpa, by rw [hh]; exact ⟨fun n hn => laid_end hg hn, fun n hn => laid_end hjj hn⟩⟩ (fun n hn => laid_end ht hn), fun c => absurd (by decide) c⟩
    | succ d ih =>
      intro x pa g j t hx hpa hg hjj ht
      have hr := hs.1 x
      have hpi := PI_le h x
      unfold wp_X11_layPoints_L12
      have hi : vp_in (iI (x : Nat)) 1189 := in_lit (by omega) (by omega)
      have hi2 : vp_in (iI (PI h x : Nat)) 1189 := in_lit (by omega) (by omega)
      rw [iI_lit 1189, iI_le (by omega) (by omega) (by omega) (by omega), iI_clN (z := x) (by omega), hf2 x (by omega), iI_succ, iI_m1, iI_eq (by omega) (by omega) (by omega) (by omega), iI_clN (z := PI h x) (by omega)]
      refine ⟨fun c => absurd c (by omega), fun _ => ⟨hi, fun c1 => ⟨hi, hi, fun _ => ⟨hi2, hi, hi2, hi2, ?_⟩, fun c2 => absurd c2 c1⟩, fun c1 => ⟨hi, hi, fun c2 => absurd c1 c2, fun _ => ?_⟩⟩⟩
      · have := ih (x + 1) (upd pa x (iI (PI h x : Nat))) _ _ _ (by omega) (upd_ext (F := fun k => iI (if h k = -1 then -1 else (PI h k : Int))) hpa (by rw [if_neg c1])) (laid_step (y := iI (x : Nat)) hg c1 rfl) (laid_step (y := iI (h x)) hjj c1 rfl) (laid_step (y := 0) ht c1 rfl)
        rw [PI_succ c1] at this
        rw [iI_succ]
        exact this
      · have := ih (x + 1) (upd pa x (iI (-1))) g j t (by omega) (upd_ext (F := fun k => iI (if h k = -1 then -1 else (PI h k : Int))) hpa (by simp only [c1, if_true])) (laid_skip hg c1) (laid_skip hjj c1) (laid_skip ht c1)
        rw [PI_skip c1] at this
        rw [iI_succ]
        exact this
  have := key 1189 0 pa pg pj pt (by omega) (fun k hk => absurd hk (by omega)) laid_0 laid_0 laid_0
  rw [iI_lit 0]
  exact this
