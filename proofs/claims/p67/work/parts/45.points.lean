/-! THE POINTS of stairs h (h g = -1: none of this gain), numbered by ascending gains -/
def isP (h : Nat → Int) (g : Nat) : Bool := decide (h g ≠ -1)
def kth (p : Nat → Bool) (n : Nat) : Nat → Nat
  | 0 => 0
  | N + 1 => if p N = true ∧ fb_ct p N = n then N else kth p n N
theorem kth_spec {p : Nat → Bool} {n : Nat} : ∀ {N : Nat}, n < fb_ct p N → kth p n N < N ∧ p (kth p n N) = true ∧ fb_ct p (kth p n N) = n
  | 0, h => absurd h (by simp [fb_ct])
  | N + 1, h => by
    simp only [kth]
    by_cases c : p N = true ∧ fb_ct p N = n
    · rw [if_pos c]
      exact ⟨by omega, c.1, c.2⟩
    · rw [if_neg c]
      have h2 : n < fb_ct p N := by
        rw [fb_ct_succ] at h
        by_cases e : p N = true
        · rw [if_pos e] at h
          have : fb_ct p N ≠ n := fun z => c ⟨e, z⟩
          omega
        · rw [if_neg e] at h
          omega
      have := kth_spec h2
      exact ⟨by omega, this.2.1, this.2.2⟩
/-- how many points; the point of a gain; gain and joy of a point -/
def PN (h : Nat → Int) : Nat := fb_ct (isP h) 1189
def PI (h : Nat → Int) (g : Nat) : Nat := fb_ct (isP h) g
def PG (h : Nat → Int) (n : Nat) : Nat := kth (isP h) n 1189
def PJ (h : Nat → Int) (n : Nat) : Int := h (PG h n)
/-- stairs: a greater gain has less joy, no joy is outside 0 to 1188 -/
def stP (h : Nat → Int) : Prop := (∀ g, -1 ≤ h g ∧ h g ≤ 1188) ∧ ∀ a b, a < b → b < 1189 → h a ≠ -1 → h b < h a
theorem PG_spec {h : Nat → Int} {n : Nat} (hn : n < PN h) : PG h n < 1189 ∧ h (PG h n) ≠ -1 ∧ PI h (PG h n) = n := by
  have := kth_spec (p := isP h) (N := 1189) hn
  exact ⟨this.1, by have h2 := this.2.1; simp only [isP, decide_eq_true_eq] at h2; exact h2, this.2.2⟩
theorem PN_le (h : Nat → Int) : PN h ≤ 1189 := fb_ct_le _ _
theorem PI_lt {h : Nat → Int} {a b : Nat} (hab : a < b) (ha : h a ≠ -1) : PI h a < PI h b := by
  have h1 : PI h (a + 1) = PI h a + 1 := by
    unfold PI
    rw [fb_ct_succ, if_pos (by simpa [isP] using ha)]
  have h2 : PI h (a + 1) ≤ PI h b := fb_ct_mono _ hab
  omega
theorem PI_lt_N {h : Nat → Int} {a : Nat} (ha1 : a < 1189) (ha : h a ≠ -1) : PI h a < PN h := PI_lt ha1 ha
theorem PG_PI {h : Nat → Int} {g : Nat} (hg : g < 1189) (hh : h g ≠ -1) : PG h (PI h g) = g := by
  obtain ⟨h1, h2, h3⟩ := PG_spec (PI_lt_N hg hh)
  rcases Nat.lt_trichotomy (PG h (PI h g)) g with c | c | c
  · have := PI_lt c h2; omega
  · exact c
  · have := PI_lt c hh; omega
theorem PJ_rng {h : Nat → Int} (hs : stP h) {n : Nat} (hn : n < PN h) : 0 ≤ PJ h n ∧ PJ h n ≤ 1188 := by
  have h1 := hs.1 (PG h n)
  have h2 := (PG_spec hn).2.1
  unfold PJ
  omega
theorem PG_rng {h : Nat → Int} {n : Nat} (hn : n < PN h) : PG h n ≤ 1188 := by
  have := (PG_spec hn).1
  omega
theorem mxa_ge {f : Nat → Int} : ∀ {d k : Nat}, k < d → f (1188 - k) ≤ mxa f d
  | 0, k, h => absurd h (by omega)
  | d + 1, k, h => by
    simp only [mxa]
    by_cases e : k = d
    · rw [e]; omega
    · have := mxa_ge (f := f) (d := d) (k := k) (by omega)
      omega
theorem stair_stP {f : Nat → Int} (hr : ∀ g, -1 ≤ f g ∧ f g ≤ 1188) : stP (stair f) := by
  refine ⟨stair_rng hr, fun a b hab hb ha => ?_⟩
  unfold stair at ha ⊢
  by_cases c : mxa f (1188 - a) < f a
  · rw [if_pos c]
    have h1 := mxa_ge (f := f) (d := 1188 - a) (k := 1188 - b) (by omega)
    rw [show 1188 - (1188 - b) = b by omega] at h1
    have h2 := (mxa_rng hr (1188 - a)).1
    split <;> omega
  · rw [if_neg c] at ha
    exact absurd rfl ha
/-- what rows of points hold -/
def ptA (h : Nat → Int) (pointAt : Nat → Int32) : Prop := ∀ g, g < 1189 → pointAt g = iI (if h g = -1 then -1 else (PI h g : Int))
def ptG (h : Nat → Int) (gain joy : Nat → Int32) : Prop := (∀ n, n < PN h → gain n = iI (PG h n : Nat)) ∧ ∀ n, n < PN h → joy n = iI (PJ h n)
/-- the same while the gains below x are laid -/
def laid (h : Nat → Int) (x : Nat) (v : Nat → Int32) (row : Nat → Int32) : Prop := ∀ k, k < x → h k ≠ -1 → row (PI h k) = v k
theorem laid_step {h : Nat → Int} {x : Nat} {v row : Nat → Int32} {y : Int32} (hl : laid h x v row) (hx : h x ≠ -1) (hy : y = v x) : laid h (x + 1) v (upd row (PI h x) y) := by
  intro k hk hh
  by_cases e : k = x
  · rw [e, pk_us]; exact hy
  · have := PI_lt (h := h) (a := k) (b := x) (by omega) hh
    rw [pk_un (by omega)]
    exact hl k (by omega) hh
theorem laid_skip {h : Nat → Int} {x : Nat} {v row : Nat → Int32} (hl : laid h x v row) (hx : h x = -1) : laid h (x + 1) v row := by
  intro k hk hh
  by_cases e : k = x
  · rw [e] at hh; exact absurd hx hh
  · exact hl k (by omega) hh
theorem laid_0 {h : Nat → Int} {v row : Nat → Int32} : laid h 0 v row := fun k hk => absurd hk (by omega)
theorem laid_end {h : Nat → Int} {v row : Nat → Int32} (hl : laid h 1189 v row) {n : Nat} (hn : n < PN h) : row n = v (PG h n) := by
  obtain ⟨h1, h2, h3⟩ := PG_spec hn
  have := hl (PG h n) h1 h2
  rw [h3] at this
  exact this
theorem PI_succ {h : Nat → Int} {x : Nat} (hx : h x ≠ -1) : PI h (x + 1) = PI h x + 1 := by
  unfold PI
  rw [fb_ct_succ, if_pos (by simpa [isP] using hx)]
theorem PI_skip {h : Nat → Int} {x : Nat} (hx : h x = -1) : PI h (x + 1) = PI h x := by
  unfold PI
  rw [fb_ct_succ, if_neg (by simp [isP, hx])]
  rfl
theorem PI_le (h : Nat → Int) (x : Nat) : PI h x ≤ x := fb_ct_le _ _
theorem sp_readPoints {h : Nat → Int} (hs : stP h) {joyAt : Nat → Int32} (hj : ∀ g, g < 1189 → joyAt g = iI (h g)) {t_size : Int32} {t_pointAt t_gain t_joy t_choice t_times t_light t_mark : Nat → Int32}
    {Q : Int32 → (Nat → Int32) → (Nat → Int32) → (Nat → Int32) → (Nat → Int32) → (Nat → Int32) → (Nat → Int32) → (Nat → Int32) → Prop}
    (hQ : ∀ pa g j c t l m, ptA h pa → ptG h g j → (∀ n, n < PN h → c n = 0) → (∀ n, n < PN h → t n = 0) → (∀ n, n < PN h → l n = 0) → (∀ n, n < PN h → m n = 0) → Q (iI (PN h : Nat)) pa g j c t l m) :
    wp_X2_readPoints t_size t_pointAt joyAt t_gain t_joy t_choice t_times t_light t_mark Q := by
  have key : ∀ (d x : Nat) (pa g j c t l m : Nat → Int32), x + d = 1189 → (∀ k, k < x → pa k = iI (if h k = -1 then -1 else (PI h k : Int))) → laid h x (fun k => iI (k : Nat)) g → laid h x (fun k => iI (h k)) j → laid h x (fun _ => 0) c → laid h x (fun _ => 0) t → laid h x (fun _ => 0) l → laid h x (fun _ => 0) m →
      wp_X2_readPoints_L7 joyAt Q (d + 1) (iI (x : Nat)) (iI (PI h x : Nat)) pa g j c t l m := by
    intro d
    induction d with
    | zero =>
      intro x pa g j c t l m hx hpa hg hjj hc ht hl hm
      unfold wp_X2_readPoints_L7
      obtain rfl : x = 1189 := by omega
      refine ⟨fun _ => hQ pa g j c t l m hpa ⟨fun n hn => laid_end hg hn, fun n hn => laid_end hjj hn⟩ (fun n hn => laid_end hc hn) (fun n hn => laid_end ht hn) (fun n hn => laid_end hl hn) (fun n hn => laid_end hm hn), fun c => absurd (by decide) c⟩
    | succ d ih =>
      intro x pa g j c t l m hx hpa hg hjj hc ht hl hm
      have hr := hs.1 x
      have hpi := PI_le h x
      unfold wp_X2_readPoints_L7
      have hi : vp_in (iI (x : Nat)) 1189 := in_lit (by omega) (by omega)
      have hi2 : vp_in (iI (PI h x : Nat)) 1189 := in_lit (by omega) (by omega)
      rw [iI_lit 1189, iI_le (by omega) (by omega) (by omega) (by omega), iI_clN (by omega), hj x (by omega), iI_succ, iI_m1, iI_eq (by omega) (by omega) (by omega) (by omega), iI_clN (z := PI h x) (by omega)]
      refine ⟨fun c => absurd c (by omega), fun _ => ⟨hi, hi, fun c1 => ?_, fun c1 => ⟨hi2, hi, hi2, hi2, hi2, hi2, hi2, hi, ?_⟩⟩⟩
      · have := ih (x + 1) (upd pa x (iI (-1))) g j c t l m (by omega) (upd_ext (F := fun k => iI (if h k = -1 then -1 else (PI h k : Int))) hpa (by simp only [c1, if_true])) (laid_skip hg c1) (laid_skip hjj c1) (laid_skip hc c1) (laid_skip ht c1) (laid_skip hl c1) (laid_skip hm c1)
        rw [PI_skip c1] at this
        exact this
      · have := ih (x + 1) (upd (upd pa x (iI (-1))) x (iI (PI h x : Nat))) _ _ _ _ _ _ (by omega) (fun k hk => by
          by_cases e : k = x
          · rw [e, pk_us, if_neg c1]
          · rw [pk_un e, pk_un e]; exact hpa k (by omega)) (laid_step (y := iI (x : Nat)) hg c1 rfl) (laid_step (y := iI (h x)) hjj c1 rfl) (laid_step (y := 0) hc c1 rfl) (laid_step (y := 0) ht c1 rfl) (laid_step (y := 0) hl c1 rfl) (laid_step (y := 0) hm c1 rfl)
        rw [PI_succ c1] at this
        rw [iI_lit 1, iI_add]
        exact this
  unfold wp_X2_readPoints
  refine ⟨1190, ?_⟩
  have := key 1189 0 t_pointAt t_gain t_joy t_choice t_times t_light t_mark (by omega) (fun k hk => absurd hk (by omega)) laid_0 laid_0 laid_0 laid_0 laid_0 laid_0
  rw [iI_lit 0]
  exact this
theorem sp_pointWithPair {h : Nat → Int} (hs : stP h) {pa joy : Nat → Int32} (hpa : ptA h pa) (hj : ∀ n, n < PN h → joy n = iI (PJ h n)) {g : Nat} (hg : g ≤ 1188) {j : Int} (hj1 : 0 ≤ j) (hj2 : j ≤ 1188) {Q : Int32 → Prop} (hQ : Q (iI (if h g = j then (PI h g : Int) else -1))) : wp_X2_pointWithPair (iI (g : Nat)) (iI j) pa joy Q := by
  have hr := hs.1 g
  have hpi := PI_le h g
  unfold wp_X2_pointWithPair
  rw [iI_lit 0, iI_lit 1189, iI_lt (by omega) (by omega) (by omega) (by omega), iI_lt (by omega) (by omega) (by omega) (by omega), iI_clN (by omega), hpa g (by omega)]
  refine ⟨fun c => absurd c (by omega), fun _ => ⟨fun _ => ⟨in_lit (by omega) (by omega), fun v hv => ?_⟩, fun c => absurd (by omega) c⟩⟩
  subst hv
  by_cases c : h g = -1
  · rw [if_neg (by omega)] at hQ
    rw [if_pos c]
    exact ⟨fun _ => by rw [iI_m1]; exact hQ, fun z => absurd iI_m1.symm z⟩
  · rw [if_neg c, iI_m1, iI_eq (by omega) (by omega) (by omega) (by omega), iI_clN (z := PI h g) (by omega), hj (PI h g) (PI_lt_N (by omega) c), show PJ h (PI h g) = h g by unfold PJ; rw [PG_PI (by omega) c], iI_eq (by omega) (by omega) (by omega) (by omega)]
    refine ⟨fun z => absurd z (by omega), fun _ => ⟨in_lit (by omega) (by omega), fun z => ?_, fun z => ?_⟩⟩
    · rw [if_neg z] at hQ; exact hQ
    · rw [if_pos z] at hQ; exact hQ
