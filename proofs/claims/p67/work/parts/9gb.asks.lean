/-! THE LAW ASKS -/
theorem fb_holes : ∀ (m n : Nat) (f : Nat → Nat), (∀ i, i < n → f i < m) → (∀ i j, i < j → j < n → f i ≠ f j) → n ≤ m := by
  intro m
  induction m with
  | zero =>
    intro n f h1 _
    rcases Nat.eq_zero_or_pos n with h | h
    · omega
    · exact absurd (h1 0 h) (Nat.not_lt_zero _)
  | succ m ih =>
    intro n f h1 h2
    by_cases hx : ∃ i, i < n ∧ f i = m
    · obtain ⟨a, ha, hfa⟩ := hx
      have hg := ih (n - 1) (fun i => if i < a then f i else f (i + 1)) (by
        intro i hi
        by_cases q : i < a
        · simp only [if_pos q]
          have b1 := h1 i (by omega)
          have b2 := h2 i a q ha
          omega
        · simp only [if_neg q]
          have b1 := h1 (i + 1) (by omega)
          have b2 := h2 a (i + 1) (by omega) (by omega)
          omega) (by
        intro i j hij hj
        by_cases q : i < a
        · by_cases r : j < a
          · simp only [if_pos q, if_pos r]
            exact h2 i j hij (by omega)
          · simp only [if_pos q, if_neg r]
            exact h2 i (j + 1) (by omega) (by omega)
        · have r : ¬ j < a := by omega
          simp only [if_neg q, if_neg r]
          exact h2 (i + 1) (j + 1) (by omega) (by omega))
      omega
    · have hg := ih n f (fun i hi => by
        have b1 := h1 i hi
        have b2 : f i ≠ m := fun e => hx ⟨i, hi, e⟩
        omega) h2
      omega
theorem PG_lt {h : Nat → Int} {a b : Nat} (hab : a < b) (hb : b < PN h) : PG h a < PG h b := by
  obtain ⟨a1, a2, a3⟩ := PG_spec (h := h) (n := a) (by omega)
  obtain ⟨b1, b2, b3⟩ := PG_spec hb
  rcases Nat.lt_or_ge (PG h a) (PG h b) with c | c
  · exact c
  · rcases Nat.lt_or_ge (PG h b) (PG h a) with d | d
    · have := PI_lt d b2; omega
    · have : PG h a = PG h b := by omega
      rw [this] at a3; omega
theorem PJ_lt {h : Nat → Int} (hs : stP h) {a b : Nat} (hab : a < b) (hb : b < PN h) : PJ h b < PJ h a :=
  hs.2 _ _ (PG_lt hab hb) (PG_spec hb).1 (PG_spec (h := h) (n := a) (by omega)).2.1
section
variable {s : Nat → Nat}
theorem PN_few (hW : WF s) : PN (HH s) ≤ 2 ^ s 0 := by
  have ex : ∀ n, ∃ q, n < PN (HH s) → (q < 2 ^ s 0 ∧ sm s 1 q (s 0) = PG (HH s) n) := by
    intro n
    by_cases c : n < PN (HH s)
    · obtain ⟨q, hq, e1, -⟩ := HH_at hW (PG_spec c).2.1
      exact ⟨q, fun _ => ⟨hq.1, e1⟩⟩
    · exact ⟨0, fun z => absurd z c⟩
  refine fb_holes (2 ^ s 0) (PN (HH s)) (fun n => Classical.choose (ex n)) (fun i hi => (Classical.choose_spec (ex i) hi).1) (fun i j hij hj e => ?_)
  have a := (Classical.choose_spec (ex i) (by omega)).2
  have b := (Classical.choose_spec (ex j) hj).2
  have e' : Classical.choose (ex i) = Classical.choose (ex j) := e
  rw [e'] at a
  have := PG_lt hij hj
  omega
variable {Q : Int32 → DT → Prop}
theorem sL_99s {n6 n10 n : Nat} {x1 x2 x5 : Int32} {d : DT} {ta6 ta10 : Nat → Int32} {k99 : Int32 → Int32 → Int32 → Int32 → Int32 → Int32 → Prop} {k237 : Int32 → Int32 → Int32 → Int32 → Int32 → Prop} {g j P : Nat} {R : Int} (hn1 : n < n6) (hn2 : n < n10) (hn3 : n < 1000) (h6 : ta6 n = iI (P : Nat)) (h10 : ta10 n = iI R) (hP : P ≤ 1188) (hR : 0 ≤ R ∧ R ≤ 1188) (hg : g ≤ 1188) (hj : j ≤ 1188) {y8 y9 y11 y12 : Int} {y10 : Nat} (b11 : -1 ≤ y11 ∧ y11 ≤ 1188) (b12 : -1 ≤ y12 ∧ y12 ≤ 1188)
    (hk : k99 (iI (if P = g ∧ R = j then (n : Int) else y8)) (iI (if bt P R g j then (n : Int) else y9)) (iI (y10 + (if bt P R g j then 1 else 0) : Nat)) (iI (if g ≤ P then max y11 R else y11)) (iI (if (j : Int) ≤ R then max y12 (P : Int) else y12)) (iI ((n : Int) - 1))) :
    vp_in (iI (n : Nat)) n6 ∧ ((¬ (ta6 (iI (n : Nat)).toNatClampNeg) = iI (g : Nat) → (wp_L_asks_b128 n6 n10 x1 x2 x5 (iI (g : Nat)) (iI (j : Nat)) d ta6 ta10 k99 k237 Q (iI y8) (iI y9) (iI (y10 : Nat)) (iI y11) (iI y12) (iI (n : Nat)))) ∧ ((ta6 (iI (n : Nat)).toNatClampNeg) = iI (g : Nat) → (vp_in (iI (n : Nat)) n10 ∧ ((¬ (ta10 (iI (n : Nat)).toNatClampNeg) = iI (j : Nat) → (wp_L_asks_b128 n6 n10 x1 x2 x5 (iI (g : Nat)) (iI (j : Nat)) d ta6 ta10 k99 k237 Q (iI y8) (iI y9) (iI (y10 : Nat)) (iI y11) (iI y12) (iI (n : Nat)))) ∧ ((ta10 (iI (n : Nat)).toNatClampNeg) = iI (j : Nat) → (wp_L_asks_b130 n6 n10 x1 x2 x5 (iI (g : Nat)) (iI (j : Nat)) d ta6 ta10 k99 k237 Q (iI y9) (iI (y10 : Nat)) (iI y11) (iI y12) (iI (n : Nat)) (iI (n : Nat)))))))) := by
  have i6 : vp_in (iI (n : Nat)) n6 := iI_inN hn1 (by omega)
  have i10 : vp_in (iI (n : Nat)) n10 := iI_inN hn2 (by omega)
  have m1 : iI (n : Nat) + (-1) = iI ((n : Int) - 1) := by rw [iI_m1, iI_add]; rfl
  have mx : ∀ {a b : Int}, -1 ≤ a ∧ a ≤ 1188 → -1 ≤ b ∧ b ≤ 1188 → (if iI a < iI b then iI b else iI a) = iI (max a b) := by
    intro a b h1 h2
    split
    · rename_i c
      rw [iI_lt (by omega) (by omega) (by omega) (by omega)] at c
      rw [show max a b = b by omega]
    · rename_i c
      rw [iI_lt (by omega) (by omega) (by omega) (by omega)] at c
      rw [show max a b = a by omega]
  have b203 : ∀ z8 z9 z10 z11, k99 z8 z9 z10 z11 (iI (if (j : Int) ≤ R then max y12 (P : Int) else y12)) (iI ((n : Int) - 1)) → wp_L_asks_b203 n6 n10 x1 x2 x5 (iI (g : Nat)) (iI (j : Nat)) d ta6 ta10 k99 k237 Q z8 z9 z10 (iI y12) (iI (n : Nat)) z11 := by
    intro z8 z9 z10 z11 hz
    unfold wp_L_asks_b203
    rw [iI_clN (by omega), h6, h10, m1, iI_lt (by omega) (by omega) (by omega) (by omega)]
    refine ⟨i10, fun c => ?_, fun c => ⟨i6, fun v hv => ?_⟩⟩
    · rw [if_neg (by omega)] at hz; exact hz
    · rw [mx (by omega) (by omega)] at hv
      subst hv
      rw [if_pos (by omega)] at hz; exact hz
  have b176 : ∀ z8 z9 z10a z10b, k99 z8 z9 (z10a + z10b) (iI (if g ≤ P then max y11 R else y11)) (iI (if (j : Int) ≤ R then max y12 (P : Int) else y12)) (iI ((n : Int) - 1)) → wp_L_asks_b176 n6 n10 x1 x2 x5 (iI (g : Nat)) (iI (j : Nat)) d ta6 ta10 k99 k237 Q z8 z9 (iI y11) (iI y12) (iI (n : Nat)) z10a z10b := by
    intro z8 z9 z10a z10b hz
    unfold wp_L_asks_b176
    intro v hv
    subst hv
    rw [iI_clN (by omega), h6, h10, iI_lt (by omega) (by omega) (by omega) (by omega)]
    refine ⟨i6, fun c => b203 _ _ _ _ ?_, fun c => ⟨i10, b203 _ _ _ _ ?_⟩⟩
    · rw [if_neg (by omega)] at hz; exact hz
    · rw [mx (by omega) (by omega)]
      rw [if_pos (by omega)] at hz; exact hz
  have b130 : ∀ z8, k99 z8 (iI (if bt P R g j then (n : Int) else y9)) (iI (y10 + (if bt P R g j then 1 else 0) : Nat)) (iI (if g ≤ P then max y11 R else y11)) (iI (if (j : Int) ≤ R then max y12 (P : Int) else y12)) (iI ((n : Int) - 1)) → wp_L_asks_b130 n6 n10 x1 x2 x5 (iI (g : Nat)) (iI (j : Nat)) d ta6 ta10 k99 k237 Q (iI y9) (iI (y10 : Nat)) (iI y11) (iI y12) (iI (n : Nat)) z8 := by
    intro z8 hz
    unfold wp_L_asks_b130
    rw [iI_clN (by omega), h6, h10]
    refine ⟨i6, i10, sL_beats (by omega) (by omega) (by omega) (by omega) (fun b => ⟨fun z => absurd z (by decide), fun _ => ?_⟩) (fun b => ⟨fun _ => ?_, fun z => absurd rfl z⟩)⟩
    · unfold wp_L_asks_b162
      refine ⟨fun z => absurd z (by decide), fun _ => b176 _ _ _ _ ?_⟩
      rw [if_pos b, if_pos b] at hz
      rw [iI_succ]
      exact hz
    · unfold wp_L_asks_b162
      refine ⟨fun _ => b176 _ _ _ _ ?_, fun z => absurd rfl z⟩
      rw [if_neg b, if_neg b] at hz
      rw [show iI (y10 : Nat) + (0 : Int32) = iI (y10 : Nat) from Int32.add_zero _]
      exact hz
  have b128 : ¬ (P = g ∧ R = (j : Int)) → wp_L_asks_b128 n6 n10 x1 x2 x5 (iI (g : Nat)) (iI (j : Nat)) d ta6 ta10 k99 k237 Q (iI y8) (iI y9) (iI (y10 : Nat)) (iI y11) (iI y12) (iI (n : Nat)) := by
    intro z
    unfold wp_L_asks_b128
    rw [if_neg z] at hk
    exact b130 _ hk
  rw [iI_clN (by omega), h6, h10, iI_eq (by omega) (by omega) (by omega) (by omega), iI_eq (by omega) (by omega) (by omega) (by omega)]
  refine ⟨i6, fun c => b128 (fun z => by omega), fun c => ⟨i10, fun e => b128 (fun z => e z.2), fun e => ?_⟩⟩
  rw [if_pos ⟨by omega, e⟩] at hk
  exact b130 _ hk
theorem ff_rng {p : Nat → Bool} : ∀ {d n : Nat}, ff p d n = -1 ∨ ∃ k : Nat, n ≤ k ∧ k < n + d ∧ ff p d n = (k : Int)
  | 0, n => Or.inl rfl
  | d + 1, n => by
    simp only [ff]
    split
    · exact Or.inr ⟨n, by omega, by omega, rfl⟩
    · rcases ff_rng (p := p) (d := d) (n := n + 1) with e | ⟨k, a, b, e⟩
      · exact Or.inl e
      · exact Or.inr ⟨k, by omega, by omega, e⟩
theorem ff_one {p : Nat → Bool} {k : Nat} (hk : p k = true) (h : ∀ i, i < k → p i = false) : ∀ {d n : Nat}, n ≤ k → k < n + d → ff p d n = (k : Int)
  | 0, n, h1, h2 => by omega
  | d + 1, n, h1, h2 => by
    simp only [ff]
    by_cases e : n = k
    · subst e; rw [if_pos hk]
    · rw [if_neg (by rw [h n (by omega)]; decide)]
      exact ff_one hk h (by omega) (by omega)
theorem ff_none {p : Nat → Bool} : ∀ {d n : Nat}, (∀ i, n ≤ i → i < n + d → p i = false) → ff p d n = -1
  | 0, n, _ => rfl
  | d + 1, n, h => by
    simp only [ff]
    rw [if_neg (by rw [h n (by omega) (by omega)]; decide)]
    exact ff_none fun i h1 h2 => h i (by omega) (by omega)
theorem fl_rngK {p : Nat → Bool} : ∀ n, -1 ≤ fl p n ∧ fl p n < (n : Int)
  | 0 => by simp only [fl]; omega
  | n + 1 => by
    have := fl_rngK (p := p) n
    simp only [fl]
    split <;> omega
theorem fl_geK {p : Nat → Bool} {k : Nat} (hk : p k = true) : ∀ {n : Nat}, k < n → (k : Int) ≤ fl p n
  | 0, h => absurd h (Nat.not_lt_zero _)
  | n + 1, h => by
    simp only [fl]
    split
    · omega
    · rename_i c
      by_cases e : k = n
      · subst e; exact absurd hk c
      · exact fl_geK hk (by omega)
theorem fl_is {p : Nat → Bool} : ∀ {n : Nat} {k : Nat}, fl p n = (k : Int) → p k = true
  | 0, k, h => by simp only [fl] at h; omega
  | n + 1, k, h => by
    simp only [fl] at h
    split at h
    · rename_i c
      have : n = k := by omega
      subst this; exact c
    · exact fl_is h
end
