/-! THE REFERENCE'S PAIRS: each once, from above -/
def sdc (m : Nat) (a : Nat → Int) : Prop := ∀ i j, i < j → j < m → a j < a i
theorem mbr_s {m : Nat} {a : Nat → Int} {w : Int} : mbr (m + 1) a w ↔ mbr m a w ∨ a m = w := by
  constructor
  · rintro ⟨i, hi, e⟩
    by_cases c : i = m
    · rw [c] at e; exact Or.inr e
    · exact Or.inl ⟨i, by omega, e⟩
  · rintro (⟨i, hi, e⟩ | e)
    · exact ⟨i, by omega, e⟩
    · exact ⟨m, by omega, e⟩
theorem mbr_u {m : Nat} {a : Nat → Int} {v w : Int} : mbr m (ui a m v) w ↔ mbr m a w := by
  constructor
  · rintro ⟨i, hi, e⟩
    rw [ui_n (by omega)] at e
    exact ⟨i, hi, e⟩
  · rintro ⟨i, hi, e⟩
    exact ⟨i, hi, by rw [ui_n (by omega)]; exact e⟩
theorem mbr_p {m : Nat} {a : Nat → Int} {v w : Int} : mbr (m + 1) (ui a m v) w ↔ mbr m a w ∨ v = w := by
  rw [mbr_s, mbr_u, ui_s]
theorem sl_dedupe {t_row : Nat → Int32} {Q : Int32 → (Nat → Int32) → Prop} {c : Nat} (hc : c ≤ 4096) {b : Nat → Int} (hD : dsc c b) (hG : rgP c b) (hQ : ∀ (p : Nat) (e : Nat → Int) (row : Nat → Int32), p ≤ c → rwP p e row → rgP p e → sdc p e → (∀ w, mbr p e w ↔ mbr c b w) → Q (iI (p : Nat)) row) :
    ∀ (d x p : Nat) (e : Nat → Int) (row : Nat → Int32), x + d = c → p ≤ x → (0 < x → 0 < p ∧ e (p - 1) = b (x - 1)) → rwP p e row → rgP p e → (∀ i, x ≤ i → i < c → row i = iI (b i)) → sdc p e → (∀ w, mbr p e w ↔ mbr x b w) → wp_X11_layPairs_L65 t_row (iI (c:Nat)) Q (d + 1) (iI (x : Nat)) (iI (p : Nat)) row := by
  intro d
  induction d with
  | zero =>
    intro x p e row hx hp h0 hR hE hF hS hM
    unfold wp_X11_layPairs_L65
    obtain rfl : x = c := by omega
    exact ⟨fun _ => hQ p e row hp hR hE hS hM, fun z => absurd (Int32.le_refl _) z⟩
  | succ d ih =>
    intro x p e row hx hp h0 hR hE hF hS hM
    have gx := hG x (by omega)
    have take : (0 < x → b x ≠ e (p - 1)) → wp_X11_layPairs_b97 t_row (iI (c : Nat)) (fun z0 z1 z2 => wp_X11_layPairs_L65 t_row (iI (c : Nat)) Q (d + 1) z0 z1 z2) Q (iI (x : Nat)) (iI (p : Nat)) row := by
      intro hne
      unfold wp_X11_layPairs_b97
      rw [iI_clN (by omega), iI_clN (by omega), iI_s1, iI_s1, hF x (Nat.le_refl _) (by omega)]
      refine ⟨in_lit (by omega) (by omega), in_lit (by omega) (by omega), ih (x + 1) (p + 1) (ui e p (b x)) _ (by omega) (by omega) (fun _ => ⟨by omega, ?_⟩) (fun i hi => ?_) (fun i hi => ?_) (fun i hi hi2 => ?_) (fun i j h1 h2 => ?_) (fun w => ?_)⟩
      · rw [show p + 1 - 1 = p by omega, show x + 1 - 1 = x by omega, ui_s]
      · by_cases q : i = p
        · rw [q, pk_us, ui_s]
        · rw [pk_un q, ui_n q]; exact hR i (by omega)
      · by_cases q : i = p
        · rw [q, ui_s]; exact gx
        · rw [ui_n q]; exact hE i (by omega)
      · rw [pk_un (by omega)]; exact hF i (by omega) hi2
      · by_cases q : j = p
        · rw [q, ui_s, ui_n (by omega)]
          obtain ⟨k1, k2⟩ := h0 (by omega)
          have k3 := hne (by omega)
          have k4 := hD (x - 1) x (by omega) (by omega)
          by_cases q2 : i = p - 1
          · rw [q2]; omega
          · have := hS i (p - 1) (by omega) (by omega)
            omega
        · rw [ui_n q, ui_n (by omega)]
          exact hS i j h1 (by omega)
      · rw [mbr_p, mbr_s, hM w]
    have e0 : (iI (x : Nat) ≤ 0) ↔ x = 0 := by
      rw [iI_lit 0, iI_le (by omega) (by omega) (by omega) (by omega)]
      omega
    unfold wp_X11_layPairs_L65
    rw [e0, iI_le (by omega) (by omega) (by omega) (by omega)]
    refine ⟨fun z => by omega, fun _ => ⟨fun z => take fun y => by omega, fun z => ?_⟩⟩
    obtain ⟨k1, k2⟩ := h0 (by omega)
    have ep := hE (p - 1) (by omega)
    have e1 : iI (p : Nat) - 1 = iI ((p - 1 : Nat) : Int) := by
      rw [iI_sub1, show ((p : Int) - 1) = ((p - 1 : Nat) : Int) by omega]
    rw [e1, iI_clN (by omega), iI_clN (by omega), hF x (Nat.le_refl _) (by omega), hR (p - 1) (by omega), iI_eq (by omega) (by omega) (by omega) (by omega), iI_s1]
    refine ⟨in_lit (by omega) (by omega), in_lit (by omega) (by omega), fun y => take fun _ => y, fun y => ih (x + 1) p e row (by omega) (by omega) (fun _ => ⟨k1, by rw [show x + 1 - 1 = x by omega]; exact y.symm⟩) hR hE (fun i hi hi2 => hF i (by omega) hi2) hS (fun w => ?_)⟩
    rw [mbr_s, hM w]
    constructor
    · exact Or.inl
    · rintro (q | q)
      · exact q
      · exact (hM w).mp ⟨p - 1, by omega, by rw [← y]; exact q⟩
def kyP (s : Nat → Nat) (q : Nat) : Int := 2048 * (sm s 1 q (s 0) : Int) + (sm s 2 q (s 0) : Int)
