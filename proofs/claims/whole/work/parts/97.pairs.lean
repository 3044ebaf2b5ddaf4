/-! THE REFERENCE'S PAIRS: each once, from above -/
def sdc (m : Nat) (a : Nat → Int) : Prop := ∀ i j, i < j → j < m → a j < a i
theorem mbr_s {m : Nat} {a : Nat → Int} {w : Int} : mbr (m + 1) a w ↔ mbr m a w ∨ a m = w := by
  constructor
  · rintro ⟨i, hi, e⟩
    by_cases c : i = m
    · rw [c] at e; exact Or.inr e
    · exact Or.inl ⟨i, by omega, e⟩
  · rintro (⟨i, hi, e⟩ | e)
    · exact ⟨i, by omega, e⟩
    · exact ⟨m, by omega, e⟩
theorem mbr_u {m : Nat} {a : Nat → Int} {v w : Int} : mbr m (ui a m v) w ↔ mbr m a w := by
  constructor
  · rintro ⟨i, hi, e⟩
    rw [ui_n (by omega)] at e
    exact ⟨i, hi, e⟩
  · rintro ⟨i, hi, e⟩
    exact ⟨i, hi, by rw [ui_n (by omega)]; exact e⟩
theorem mbr_p {m : Nat} {a : Nat → Int} {v w : Int} : mbr (m + 1) (ui a m v) w ↔ mbr m a w ∨ v = w := by
  rw [mbr_s, mbr_u, ui_s]
theorem sl_dedupe {t_row : Nat → Int32} {Q : Int32 → (Nat → Int32) → Prop} {c : Nat} (hc : c ≤ 4096) {b : Nat → Int} (hD : dsc c b) (hG : rgP c b) (hQ : ∀ (p : Nat) (e : Nat → Int) (row : Nat → Int32), p ≤ c → rwP p e row → rgP p e → sdc p e → (∀ w, mbr p e w ↔ mbr c b w) → Q (iI (p : Nat)) row) :
    ∀ (d x p : Nat) (e : Nat → Int) (row : Nat → Int32), x + d = c → p ≤ x → (0 < x → 0 < p ∧ e (p - 1) = b (x - 1)) → rwP p e row → rgP p e → (∀ i, x ≤ i → i < c → row i = iI (b i)) → sdc p e → (∀ w, mbr p e w ↔ mbr x b w) → wp_X11_layPairs_L65 t_row (iI (c:Nat)) Q (d + 1) (iI (x : Nat)) (iI (p : Nat)) row := by
  intro d
  induction d with
  | zero =>
    intro x p e row hx hp h0 hR hE hF hS hM
    unfold wp_X11_layPairs_L65
    obtain rfl : x = c := by omega
    exact ⟨fun _ => hQ p e row hp hR hE hS hM, fun z => absurd (Int32.le_refl _) z⟩
  | succ d ih =>
    intro x p e row hx hp h0 hR hE hF hS hM
    have gx := hG x (by omega)
    have take : (0 < x → b x ≠ e (p - 1)) → wp_X11_layPairs_b97 t_row (iI (c : Nat)) (fun z0 z1 z2 => wp_X11_layPairs_L65 t_row (iI (c : Nat)) Q (d + 1) z0 z1 z2) Q (iI (x : Nat)) (iI (p : Nat)) row := by
      intro hne
      unfold wp_X11_layPairs_b97
      rw [iI_clN (by omega), iI_clN (by omega), iI_s1, iI_s1, hF x (Nat.le_refl _) (by omega)]
      refine ⟨in_lit (by omega) (by omega), in_lit (by omega) (by omega), ih (x + 1) (p + 1) (ui e p (b x)) _ (by omega) (by omega) (fun _ => ⟨by omega, ?_⟩) (fun i hi => ?_) (fun i hi => ?_) (fun i hi hi2 => ?_) (fun i j h1 h2 => ?_) (fun w => ?_)⟩
      · rw [show p + 1 - 1 = p by omega, show x + 1 - 1 = x by omega, ui_s]
      · by_cases q : i = p
        · rw [q, pk_us, ui_s]
        · rw [pk_un q, ui_n q]; exact hR i (by omega)
      · by_cases q : i = p
        · rw [q, ui_s]; exact gx
        · rw [ui_n q]; exact hE i (by omega)
      · rw [pk_un (by omega)]; exact hF i (by omega) hi2
      · by_cases q : j = p
        · rw [q, ui_s, ui_n (by omega)]
          obtain ⟨k1, k2⟩ := h0 (by omega)
          have k3 := hne (by omega)
          have k4 := hD (x - 1) x (by omega) (by omega)
          by_cases q2 : i = p - 1
          · rw [q2]; omega
          · have := hS i (p - 1) (by omega) (by omega)
            omega
        · rw [ui_n q, ui_n (by omega)]
          exact hS i j h1 (by omega)
      · rw [mbr_p, mbr_s, hM w]
    have e0 : (iI (x : Nat) ≤ 0) ↔ x = 0 := by
      rw [iI_lit 0, iI_le (by omega) (by omega) (by omega) (by omega)]
      omega
    unfold wp_X11_layPairs_L65
    rw [e0, iI_le (by omega) (by omega) (by omega) (by omega)]
    refine ⟨fun z => by omega, fun _ => ⟨fun z => take fun y => by omega, fun z => ?_⟩⟩
    obtain ⟨k1, k2⟩ := h0 (by omega)
    have ep := hE (p - 1) (by omega)
    have e1 : iI (p : Nat) - 1 = iI ((p - 1 : Nat) : Int) := by
      rw [iI_sub1, show ((p : Int) - 1) = ((p - 1 : Nat) : Int) by omega]
    rw [e1, iI_clN (by omega), iI_clN (by omega), hF x (Nat.le_refl _) (by omega), hR (p - 1) (by omega), iI_eq (by omega) (by omega) (by omega) (by omega), iI_s1]
    refine ⟨in_lit (by omega) (by omega), in_lit (by omega) (by omega), fun y => take fun _ => y, fun y => ih (x + 1) p e row (by omega) (by omega) (fun _ => ⟨k1, by rw [show x + 1 - 1 = x by omega]; exact y.symm⟩) hR hE (fun i hi hi2 => hF i (by omega) hi2) hS (fun w => ?_)⟩
    rw [mbr_s, hM w]
    constructor
    · exact Or.inl
    · rintro (q | q)
      · exact q
      · exact (hM w).mp ⟨p - 1, by omega, by rw [← y]; exact q⟩
def kyP (s : Nat → Nat) (q : Nat) : Int := 2048 * (sm s 1 q (s 0) : Int) + (sm s 2 q (s 0) : Int)
theorem kyP_rng {s : Nat → Nat} (hW : WF s) (q : Nat) : 0 ≤ kyP s q ∧ kyP s q < 4000000 := by
  have h1 : sm s 1 q (s 0) ≤ 1188 := sm_bd hW (by omega) q
  have h2 : sm s 2 q (s 0) ≤ 1188 := sm_bd hW (by omega) q
  unfold kyP
  omega
/-- some allowed set has these sums -/
def has_ (s : Nat → Nat) (m : Nat) (w : Int) : Prop := ∃ q, q < m ∧ rf s (s 1) q = 0 ∧ kyP s q = w
theorem sl_pairs4 {s : Nat → Nat} (hW : WF s) {t_row : Nat → Int32} {t_pairMany : Int32} {k53 : Int32 → (Nat → Int32) → Prop} {Q : Int32 → (Nat → Int32) → Prop} (hN : neP s t_row) (hQ : ∀ (c : Nat) (a : Nat → Int) (row : Nat → Int32), c ≤ 2 ^ s 0 → rwP c a row → rgP c a → (∀ w, mbr c a w ↔ has_ s (2 ^ s 0) w) → k53 (iI (c : Nat)) row) :
    ∀ (d q c : Nat) (a : Nat → Int) (row : Nat → Int32), q + d = 2 ^ s 0 → c ≤ q → rwP c a row → rgP c a → (∀ w, mbr c a w ↔ has_ s q w) → wp_X11_layPairs_L4 t_row t_pairMany k53 Q (d + 1) (iI (c : Nat)) (iI (q : Nat)) row := by
  have hp := wf_pow hW
  intro d
  induction d with
  | zero =>
    intro q c a row hq hc hR hG hM
    unfold wp_X11_layPairs_L4
    refine sp_allSets hW hN ?_
    rw [iI_le (by omega) (by omega) (by omega) (by omega)]
    refine ⟨fun _ => hQ c a row (by omega) hR hG (fun w => ?_), fun z => by omega⟩
    rw [hM w, show q = 2 ^ s 0 by omega]
  | succ d ih =>
    intro q c a row hq hc hR hG hM
    unfold wp_X11_layPairs_L4
    refine sp_allSets hW hN ?_
    rw [iI_le (by omega) (by omega) (by omega) (by omega), iI_s1, iI_s1]
    refine ⟨fun z => by omega, fun _ => sp_isAllowed hW hN (by omega) ?_⟩
    by_cases r : rf s (s 1) q = 0
    · rw [if_pos r, iI_lit 1, iI_lit 2]
      refine ⟨fun _ => sp_sumOf (w := 1) hW hN (by omega) (by omega) (sp_sumOf (w := 2) hW hN (by omega) (by omega) ?_), fun z => absurd z (by decide)⟩
      unfold wp_X11_pairOf
      have ek : (2048 : Int32) * iI (sm s 1 q (s 0) : Nat) + iI (sm s 2 q (s 0) : Nat) = iI (kyP s q) := by
        rw [show (2048 : Int32) = iI 2048 from rfl, iI_mul, iI_add]
        rfl
      rw [ek, iI_clN (by omega)]
      have kr := kyP_rng hW q
      refine ⟨in_lit (by omega) (by omega), ih (q + 1) (c + 1) (ui a c (kyP s q)) _ (by omega) (by omega) (fun i hi => ?_) (fun i hi => ?_) (fun w => ?_)⟩
      · by_cases e : i = c
        · rw [e, pk_us, ui_s]
        · rw [pk_un e, ui_n e]; exact hR i (by omega)
      · by_cases e : i = c
        · rw [e, ui_s]; exact kr
        · rw [ui_n e]; exact hG i (by omega)
      · rw [mbr_p, hM w]
        constructor
        · rintro (⟨x, h1, h2⟩ | e)
          · exact ⟨x, by omega, h2⟩
          · exact ⟨q, by omega, r, e⟩
        · rintro ⟨x, h1, h2, h3⟩
          by_cases e : x = q
          · rw [e] at h3; exact Or.inr h3
          · exact Or.inl ⟨x, by omega, h2, h3⟩
    · rw [if_neg r]
      refine ⟨fun z => absurd rfl z, fun _ => ih (q + 1) c a row (by omega) (by omega) hR hG (fun w => ?_)⟩
      rw [hM w]
      constructor
      · rintro ⟨x, h1, h2⟩
        exact ⟨x, by omega, h2⟩
      · rintro ⟨x, h1, h2, h3⟩
        by_cases e : x = q
        · rw [e] at h2; exact absurd h2 r
        · exact ⟨x, by omega, h2, h3⟩
theorem sp_layPairs {s : Nat → Nat} (hW : WF s) {t_pairMany : Int32} {t_row : Nat → Int32} {t_pairs : Nat → Int32} {Q : Int32 → (Nat → Int32) → Prop} (hN : neP s t_row) (hQ : ∀ (p : Nat) (e : Nat → Int) (row : Nat → Int32), p ≤ 4096 → rwP p e row → rgP p e → sdc p e → (∀ w, mbr p e w ↔ has_ s (2 ^ s 0) w) → Q (iI (p : Nat)) row) : wp_X11_layPairs t_pairMany t_row t_pairs Q := by
  have hp := wf_pow hW
  unfold wp_X11_layPairs
  refine ⟨2 ^ s 0 + 1, sl_pairs4 hW hN (fun c a row hc hR hG hM => ?_) (2 ^ s 0) 0 0 (fun _ => 0) t_pairs (by omega) (by omega) (fun i hi => by omega) (fun i hi => by omega) (fun w => ⟨fun ⟨i, hi, _⟩ => by omega, fun ⟨i, hi, _⟩ => by omega⟩)⟩
  refine sp_sortPairs (m := c) (by omega) hR hG fun b row2 hR2 hG2 hM2 hD => ⟨c + 1, ?_⟩
  exact sl_dedupe (by omega) hD hG2 (fun p e row3 h1 h2 h3 h4 h5 => hQ p e row3 (by omega) h2 h3 h4 (fun w => by rw [h5 w, hM2 w, hM w])) c 0 0 (fun _ => 0) row2 (by omega) (Nat.le_refl _) (fun z => by omega) (fun i hi => by omega) (fun i hi => by omega) (fun i hi hi2 => hR2 i hi2) (fun i j h1 h2 => by omega) (fun w => ⟨fun ⟨i, hi, _⟩ => by omega, fun ⟨i, hi, _⟩ => by omega⟩)
