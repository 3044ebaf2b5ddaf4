/-! WHICH POINTS ARE VERTICES, WHICH SUPPORTED -/
def anyb (p : Nat → Bool) : Nat → Bool
  | 0 => false
  | n + 1 => anyb p n || p n
theorem anyb_iff {p : Nat → Bool} : ∀ {N : Nat}, anyb p N = true ↔ ∃ k, k < N ∧ p k = true
  | 0 => by simp [anyb]
  | N + 1 => by
    simp only [anyb, Bool.or_eq_true]
    rw [anyb_iff]
    constructor
    · rintro (⟨k, hk, h⟩ | h)
      · exact ⟨k, by omega, h⟩
      · exact ⟨N, by omega, h⟩
    · rintro ⟨k, hk, h⟩
      by_cases e : k = N
      · subst e; exact Or.inr h
      · exact Or.inl ⟨k, by omega, h⟩
theorem anyb_e {p : Nat → Bool} {n : Nat} (h : p n = false) : anyb p (n + 1) = anyb p n := by
  show (anyb p n || p n) = anyb p n
  rw [h, Bool.or_false]
theorem anyb_t {p : Nat → Bool} {n : Nat} (h : p n = true) : anyb p (n + 1) = true := by
  show (anyb p n || p n) = true
  rw [h, Bool.or_true]
def vtp (h : Nat → Int) (n k : Nat) : Bool := decide (VP h k = n)
def onp (h : Nat → Int) (n k : Nat) : Bool := decide (k + 1 < VC h ∧ VP h k < n ∧ n < VP h (k + 1) ∧ cr h (VP h k) (VP h (k + 1)) n = 0)
def isV (h : Nat → Int) (n : Nat) : Bool := anyb (vtp h n) (VC h)
def MKs (h : Nat → Int) (x n : Nat) : Nat := if isV h n = true then 2 else if anyb (onp h n) x = true then 1 else 0
def MK (h : Nat → Int) (n : Nat) : Nat := MKs h (VC h) n
theorem MKs_1 {h : Nat → Int} {x n : Nat} (a : isV h n = false) (b : anyb (onp h n) x = true) : MKs h x n = 1 := by
  unfold MKs
  rw [a, b]
  rfl
theorem MKs_0 {h : Nat → Int} {x n : Nat} (a : isV h n = false) (b : anyb (onp h n) x = false) : MKs h x n = 0 := by
  unfold MKs
  rw [a, b]
  rfl
theorem MKs_e {h : Nat → Int} {x n : Nat} (b : onp h n x = false) : MKs h (x + 1) n = MKs h x n := by
  unfold MKs
  rw [anyb_e b]
/-- the marks while the box behind vertex x is walked up to y -/
def MKb (h : Nat → Int) (x y n : Nat) : Nat := if VP h x < n ∧ n < y then (if cr h (VP h x) (VP h (x + 1)) n = 0 then 1 else 0) else MKs h x n
theorem MKb_i {h : Nat → Int} {x y n : Nat} (a : VP h x < n) (b : n < y) : MKb h x y n = if cr h (VP h x) (VP h (x + 1)) n = 0 then 1 else 0 := if_pos ⟨a, b⟩
theorem MKb_o {h : Nat → Int} {x y n : Nat} (a : ¬ (VP h x < n ∧ n < y)) : MKb h x y n = MKs h x n := if_neg a
theorem MKs_le (h : Nat → Int) (x n : Nat) : MKs h x n ≤ 2 := by
  unfold MKs
  repeat' split
  all_goals omega
theorem VP_le {h : Nat → Int} {k l : Nat} (hkl : k ≤ l) (hl : l < VC h) : VP h k ≤ VP h l := by
  rcases Nat.lt_or_ge k l with c | c
  · have := VP_mono c hl; omega
  · rw [show k = l by omega]; exact Nat.le_refl _
/-- between two neighbours there is no vertex, and no other box -/
theorem between_no {h : Nat → Int} {x n : Nat} (hx : x + 1 < VC h) (h1 : VP h x < n) (h2 : n < VP h (x + 1)) : isV h n = false ∧ anyb (onp h n) x = false := by
  constructor
  · rw [Bool.eq_false_iff]
    intro z
    obtain ⟨k, hk, e⟩ := anyb_iff.mp z
    simp only [vtp, decide_eq_true_eq] at e
    rcases Nat.lt_or_ge x k with c | c
    · have := VP_le (h := h) (k := x + 1) (l := k) (by omega) hk; omega
    · have := VP_le (h := h) (k := k) (l := x) c (by omega); omega
  · rw [Bool.eq_false_iff]
    intro z
    obtain ⟨k, hk, e⟩ := anyb_iff.mp z
    simp only [onp, decide_eq_true_eq] at e
    have := VP_le (h := h) (k := k + 1) (l := x) (by omega) (by omega)
    omega
theorem sp_markSupported {h : Nat → Int} (hs : stP h) {gain joy : Nat → Int32} (hG : ptG h gain joy) {vc : Int32} {vp m0 : Nat → Int32} (hV : vxP h vc vp) (hm : ∀ n, n < PN h → m0 n = 0) {Q : (Nat → Int32) → Prop} (hQ : ∀ m, (∀ n, n < PN h → m n = iI (MK h n : Nat)) → Q m) : wp_X2_markSupported vc vp m0 gain joy Q := by
  have hN := PN_le h
  have hC := VC_le h
  obtain ⟨hv1, hv2⟩ := hV
  have k3 : ∀ {x : Nat} (hx : x + 1 < VC h) {K : (Nat → Int32) → Prop} {Q : (Nat → Int32) → Prop}, (∀ m, (∀ n, n < PN h → m n = iI (MKs h (x + 1) n : Nat)) → K m) → ∀ (d y : Nat) (m : Nat → Int32), y + d = VP h (x + 1) → VP h x < y → (∀ n, n < PN h → m n = iI (MKb h x y n : Nat)) → wp_X2_markSupported_L61 vc vp gain joy (iI (x : Nat)) (iI (VP h x : Nat)) (iI (VP h (x + 1) : Nat)) K Q (d + 1) (iI (y : Nat)) m := by
    intro x hx K Q hK d
    have hp1 := VP_lt (h := h) (k := x + 1) hx
    have hp0 := VP_lt (h := h) (k := x) (by omega)
    induction d with
    | zero =>
      intro y m hy hxy hI
      unfold wp_X2_markSupported_L61
      rw [iI_le (by omega) (by omega) (by omega) (by omega)]
      refine ⟨fun _ => hK m fun n hn => ?_, fun z => absurd (by omega) z⟩
      rw [hI n hn]
      refine congrArg (fun z : Nat => iI (z : Int)) ?_
      by_cases c : VP h x < n ∧ n < y
      · rw [MKb_i c.1 c.2]
        obtain ⟨b1, b2⟩ := between_no hx c.1 (by omega)
        by_cases q : cr h (VP h x) (VP h (x + 1)) n = 0
        · rw [if_pos q]
          exact (MKs_1 b1 (anyb_t (by simp only [onp, decide_eq_true_eq]; exact ⟨hx, c.1, by omega, q⟩))).symm
        · rw [if_neg q]
          exact (MKs_0 b1 (by rw [anyb_e (by rw [Bool.eq_false_iff]; simp only [onp, ne_eq, decide_eq_true_eq]; exact fun z => q z.2.2.2)]; exact b2)).symm
      · rw [MKb_o c]
        have e : onp h n x = false := by
          rw [Bool.eq_false_iff]
          simp only [onp, ne_eq, decide_eq_true_eq]
          omega
        exact (MKs_e e).symm
    | succ d ih =>
      intro y m hy hxy hI
      unfold wp_X2_markSupported_L61
      have hi : vp_in (iI (y : Nat)) 1189 := in_lit (by omega) (by omega)
      rw [iI_le (by omega) (by omega) (by omega) (by omega), iI_clN (by omega), iI_succ]
      refine ⟨fun z => absurd z (by omega), fun _ => sp_heightOver hG hp0 hp1 (by omega) ?_⟩
      have hr := cr_rng hs (f := VP h x) (s := VP h (x + 1)) (p := y) hp0 hp1 (by omega)
      rw [iI_lit 0, iI_eq (by omega) (by omega) (by omega) (by omega)]
      refine ⟨fun c => ⟨hi, ih (y + 1) _ (by omega) (by omega) fun n hn => ?_⟩, fun c => ⟨hi, ih (y + 1) _ (by omega) (by omega) fun n hn => ?_⟩⟩
      · by_cases e : n = y
        · rw [e, pk_us, MKb_i hxy (by omega)]
          exact congrArg (fun z : Nat => iI (z : Int)) (if_neg (show ¬ cr h (VP h x) (VP h (x + 1)) y = 0 by omega)).symm
        · rw [pk_un e, hI n hn]
          refine congrArg (fun z : Nat => iI (z : Int)) ?_
          by_cases q : VP h x < n ∧ n < y
          · rw [MKb_i q.1 q.2, MKb_i q.1 (by omega)]
          · rw [MKb_o q, MKb_o (by omega)]
      · by_cases e : n = y
        · rw [e, pk_us, MKb_i hxy (by omega)]
          exact congrArg (fun z : Nat => iI (z : Int)) (if_pos (show cr h (VP h x) (VP h (x + 1)) y = 0 by omega)).symm
        · rw [pk_un e, hI n hn]
          refine congrArg (fun z : Nat => iI (z : Int)) ?_
          by_cases q : VP h x < n ∧ n < y
          · rw [MKb_i q.1 q.2, MKb_i q.1 (by omega)]
          · rw [MKb_o q, MKb_o (by omega)]
  have k2 : ∀ (d x : Nat) (m : Nat → Int32), x + d = VC h → (∀ n, n < PN h → m n = iI (MKs h x n : Nat)) → wp_X2_markSupported_L30 vc vp gain joy Q (d + 1) (iI (x : Nat)) m := by
    intro d
    induction d with
    | zero =>
      intro x m hx hI
      unfold wp_X2_markSupported_L30
      obtain rfl : x = VC h := by omega
      rw [hv1, iI_lit 1, iI_add, iI_le (by omega) (by omega) (by omega) (by omega)]
      exact ⟨fun _ => hQ m hI, fun z => absurd (by omega) z⟩
    | succ d ih =>
      intro x m hx hI
      unfold wp_X2_markSupported_L30
      have ex : iI (x : Nat) + (1 : Int32) = iI ((x + 1 : Nat) : Int) := iI_succ x
      rw [ex]
      have e0 : vc ≤ iI ((x + 1 : Nat) : Int) ↔ (VC h : Int) ≤ ((x + 1 : Nat) : Int) := by rw [hv1, iI_le (by omega) (by omega) (by omega) (by omega)]
      rw [e0]
      refine ⟨fun c => hQ m fun n hn => ?_, fun c => ⟨in_lit (by omega) (by omega), fun v hv => ⟨in_lit (by omega) (by omega), fun w hw u hu => ?_⟩⟩⟩
      · rw [hI n hn]
        refine congrArg (fun z : Nat => iI (z : Int)) ?_
        have e : VC h = x + 1 := by omega
        have e2 : onp h n x = false := by
          rw [Bool.eq_false_iff]
          simp only [onp, ne_eq, decide_eq_true_eq]
          omega
        unfold MK
        rw [e]
        exact (MKs_e e2).symm
      · have hp1 := VP_lt (h := h) (k := x + 1) (by omega)
        have hlt := VP_mono (h := h) (k := x) (l := x + 1) (by omega) (by omega)
        rw [iI_clN (by omega), hv2 x (by omega)] at hv
        rw [iI_clN (by omega), hv2 (x + 1) (by omega)] at hw
        subst hv; subst hw
        rw [iI_succ] at hu
        subst hu
        refine ⟨VP h (x + 1) - (VP h x + 1) + 1, k3 (by omega) (fun m hm => ih (x + 1) m (by omega) hm) _ (VP h x + 1) m (by omega) (by omega) fun n hn => ?_⟩
        rw [MKb_o (by omega)]
        exact hI n hn
  have k1 : ∀ (d x : Nat) (m : Nat → Int32), x + d = VC h → (∀ n, n < PN h → m n = iI ((if anyb (vtp h n) x = true then 2 else 0 : Nat) : Int)) → wp_X2_markSupported_L2 vc vp gain joy (fun (t_mark : Nat → Int32) => ∃ n30, wp_X2_markSupported_L30 vc vp gain joy Q n30 (0 : Int32) t_mark) Q (d + 1) (iI (x : Nat)) m := by
    intro d
    induction d with
    | zero =>
      intro x m hx hI
      unfold wp_X2_markSupported_L2
      obtain rfl : x = VC h := by omega
      rw [hv1]
      refine ⟨fun _ => ⟨VC h + 1, ?_⟩, fun z => absurd (Int32.le_refl _) z⟩
      have := k2 (VC h) 0 m (by omega) (fun n hn => by
        rw [hI n hn]
        unfold MKs
        simp only [anyb]
        rfl)
      rw [hv1] at this
      exact this
    | succ d ih =>
      intro x m hx hI
      unfold wp_X2_markSupported_L2
      have hp1 := VP_lt (h := h) (k := x) (by omega)
      have e0 : vc ≤ iI (x : Nat) ↔ (VC h : Int) ≤ (x : Int) := by rw [hv1, iI_le (by omega) (by omega) (by omega) (by omega)]
      rw [e0, iI_clN (by omega), hv2 x (by omega), iI_clN (by omega), iI_succ]
      refine ⟨fun z => absurd z (by omega), fun _ => ⟨in_lit (by omega) (by omega), in_lit (by omega) (by omega), ih (x + 1) _ (by omega) fun n hn => ?_⟩⟩
      by_cases e : n = VP h x
      · have e2 : anyb (vtp h n) (x + 1) = true := anyb_t (by simp only [vtp, decide_eq_true_eq]; exact e.symm)
        rw [e2, e, pk_us]
        exact iI_lit 2
      · rw [pk_un e, hI n hn]
        have : vtp h n x = false := by simp only [vtp, decide_eq_false_iff_not]; omega
        rw [anyb_e this]
  unfold wp_X2_markSupported
  exact ⟨VC h + 1, by rw [iI_lit 0]; exact k1 (VC h) 0 m0 (by omega) (fun n hn => hm n hn)⟩
