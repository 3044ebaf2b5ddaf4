/-! CHANGES, both sides: items, capacity, limit, rules -/
theorem suP_3 {s : Nat → Nat} {items cap lim mus nev hand : Int32} {w g j b n : Nat → Int32} (hS : suP s items cap lim mus nev hand w g j b n) (v : Nat) : suP (su s 3 v) items cap lim (iI v) nev hand w g j b n := by
  obtain ⟨s0, s1, s2, s3, s4, s5, s6⟩ := hS
  refine ⟨by rw [su_ne (by omega)]; exact s0, by rw [su_ne (by omega)]; exact s1, by rw [su_ne (by omega)]; exact s2, by rw [su_eq], by rw [su_ne (by omega)]; exact s4, by rw [su_ne (by omega)]; exact s5, fun i hi => ?_⟩
  rw [su_ne (show (0 : Nat) ≠ 3 by omega)] at hi
  rw [su_ne (by omega), su_ne (by omega), su_ne (by omega), su_ne (by omega), su_ne (by omega)]
  exact s6 i hi
theorem suP_4 {s : Nat → Nat} {items cap lim mus nev hand : Int32} {w g j b n : Nat → Int32} (hS : suP s items cap lim mus nev hand w g j b n) (v : Nat) : suP (su s 4 v) items cap lim mus (iI v) hand w g j b n := by
  obtain ⟨s0, s1, s2, s3, s4, s5, s6⟩ := hS
  refine ⟨by rw [su_ne (by omega)]; exact s0, by rw [su_ne (by omega)]; exact s1, by rw [su_ne (by omega)]; exact s2, by rw [su_ne (by omega)]; exact s3, by rw [su_eq], by rw [su_ne (by omega)]; exact s5, fun i hi => ?_⟩
  rw [su_ne (show (0 : Nat) ≠ 4 by omega)] at hi
  rw [su_ne (by omega), su_ne (by omega), su_ne (by omega), su_ne (by omega), su_ne (by omega)]
  exact s6 i hi
theorem suP_r3 {s : Nat → Nat} {items cap lim mus nev hand : Int32} {w g j b n : Nat → Int32} (hS : suP s items cap lim mus nev hand w g j b n) (k v : Nat) : suP (su s (6 + 5 * k + 3) v) items cap lim mus nev hand w g j (upd b k (iI v)) n := by
  obtain ⟨s0, s1, s2, s3, s4, s5, s6⟩ := hS
  refine ⟨by rw [su_ne (by omega)]; exact s0, by rw [su_ne (by omega)]; exact s1, by rw [su_ne (by omega)]; exact s2, by rw [su_ne (by omega)]; exact s3, by rw [su_ne (by omega)]; exact s4, by rw [su_ne (by omega)]; exact s5, fun i hi => ?_⟩
  rw [su_ne (show (0 : Nat) ≠ 6 + 5 * k + 3 by omega)] at hi
  obtain ⟨q0, q1, q2, q3, q4⟩ := s6 i hi
  by_cases c : i = k
  · subst c
    rw [su_ne (show 6 + 5 * i ≠ 6 + 5 * i + 3 by omega), su_ne (show 6 + 5 * i + 1 ≠ 6 + 5 * i + 3 by omega), su_ne (show 6 + 5 * i + 2 ≠ 6 + 5 * i + 3 by omega), su_ne (show 6 + 5 * i + 4 ≠ 6 + 5 * i + 3 by omega), su_eq, pk_us]
    exact ⟨q0, q1, q2, rfl, q4⟩
  · rw [su_ne (by omega), su_ne (by omega), su_ne (by omega), su_ne (by omega), su_ne (by omega), pk_un c]
    exact ⟨q0, q1, q2, q3, q4⟩
theorem suP_r4 {s : Nat → Nat} {items cap lim mus nev hand : Int32} {w g j b n : Nat → Int32} (hS : suP s items cap lim mus nev hand w g j b n) (k v : Nat) : suP (su s (6 + 5 * k + 4) v) items cap lim mus nev hand w g j b (upd n k (iI v)) := by
  obtain ⟨s0, s1, s2, s3, s4, s5, s6⟩ := hS
  refine ⟨by rw [su_ne (by omega)]; exact s0, by rw [su_ne (by omega)]; exact s1, by rw [su_ne (by omega)]; exact s2, by rw [su_ne (by omega)]; exact s3, by rw [su_ne (by omega)]; exact s4, by rw [su_ne (by omega)]; exact s5, fun i hi => ?_⟩
  rw [su_ne (show (0 : Nat) ≠ 6 + 5 * k + 4 by omega)] at hi
  obtain ⟨q0, q1, q2, q3, q4⟩ := s6 i hi
  by_cases c : i = k
  · subst c
    rw [su_ne (show 6 + 5 * i ≠ 6 + 5 * i + 4 by omega), su_ne (show 6 + 5 * i + 1 ≠ 6 + 5 * i + 4 by omega), su_ne (show 6 + 5 * i + 2 ≠ 6 + 5 * i + 4 by omega), su_ne (show 6 + 5 * i + 3 ≠ 6 + 5 * i + 4 by omega), su_eq, pk_us]
    exact ⟨q0, q1, q2, q3, rfl⟩
  · rw [su_ne (by omega), su_ne (by omega), su_ne (by omega), su_ne (by omega), su_ne (by omega), pk_un c]
    exact ⟨q0, q1, q2, q3, q4⟩
theorem WF_c {s : Nat → Nat} (hW : WF s) {k v : Nat} (hk : k = 1 ∧ v ≤ 999 ∨ k = 2 ∧ v ≤ 12 ∨ k = 3 ∧ v < 2 ^ s 0 ∨ k = 4 ∧ v < 2 ^ s 0 ∨ k = 5 ∧ v < 2 ^ s 0) : WF (su s k v) := by
  obtain ⟨h0, h1, h2, h3, h4, h5, h6⟩ := hW
  have e0 : su s k v 0 = s 0 := su_ne (by omega)
  have f : ∀ i, i ≠ k → su s k v i = s i := fun i hi => su_ne hi
  refine ⟨by rw [e0]; exact h0, ?_, ?_, ?_, ?_, ?_, fun i hi => ?_⟩
  · by_cases c : k = 1
    · subst c; rw [su_eq]; omega
    · rw [f 1 (by omega)]; exact h1
  · by_cases c : k = 2
    · subst c; rw [su_eq]; omega
    · rw [f 2 (by omega)]; exact h2
  · rw [e0]
    by_cases c : k = 3
    · subst c; rw [su_eq]; rcases hk with h | h | h | h | h <;> first | exact h.2 | exact absurd h.1 (by omega)
    · rw [f 3 (by omega)]; exact h3
  · rw [e0]
    by_cases c : k = 4
    · subst c; rw [su_eq]; rcases hk with h | h | h | h | h <;> first | exact h.2 | exact absurd h.1 (by omega)
    · rw [f 4 (by omega)]; exact h4
  · rw [e0]
    by_cases c : k = 5
    · subst c; rw [su_eq]; rcases hk with h | h | h | h | h <;> first | exact h.2 | exact absurd h.1 (by omega)
    · rw [f 5 (by omega)]; exact h5
  · rw [e0] at hi ⊢
    rw [f _ (by omega), f _ (by omega), f _ (by omega), f _ (by omega), f _ (by omega)]
    exact h6 i hi
theorem WF_row {s : Nat → Nat} (hW : WF s) {k w v : Nat} (hk : w < 3 ∧ v ≤ 99 ∨ 3 ≤ w ∧ w < 5 ∧ v < 2 ^ s 0) : WF (su s (6 + 5 * k + w) v) := by
  obtain ⟨h0, h1, h2, h3, h4, h5, h6⟩ := hW
  have f : ∀ i, i ≠ 6 + 5 * k + w → su s (6 + 5 * k + w) v i = s i := fun i hi => su_ne hi
  refine ⟨by rw [f 0 (by omega)]; exact h0, by rw [f 1 (by omega)]; exact h1, by rw [f 2 (by omega)]; exact h2, by rw [f 0 (by omega), f 3 (by omega)]; exact h3, by rw [f 0 (by omega), f 4 (by omega)]; exact h4, by rw [f 0 (by omega), f 5 (by omega)]; exact h5, fun i hi => ?_⟩
  rw [f 0 (by omega)] at hi ⊢
  obtain ⟨q0, q1, q2, q3, q4⟩ := h6 i hi
  have g : ∀ x, x < 5 → (x < 3 → s (6 + 5 * i + x) ≤ 99) → (3 ≤ x → s (6 + 5 * i + x) < 2 ^ s 0) → (x < 3 → su s (6 + 5 * k + w) v (6 + 5 * i + x) ≤ 99) ∧ (3 ≤ x → su s (6 + 5 * k + w) v (6 + 5 * i + x) < 2 ^ s 0) := by
    intro x hx a1 a2
    by_cases c : 6 + 5 * i + x = 6 + 5 * k + w
    · rw [c, su_eq]
      have : x = w := by omega
      subst this
      refine ⟨fun z => ?_, fun z => ?_⟩
      · omega
      · rcases hk with h | h
        · exact absurd h.1 (by omega)
        · exact h.2.2
    · rw [f _ c]; exact ⟨a1, a2⟩
  exact ⟨(g 0 (by omega) (fun _ => q0) (fun z => absurd z (by omega))).1 (by omega), (g 1 (by omega) (fun _ => q1) (fun z => absurd z (by omega))).1 (by omega), (g 2 (by omega) (fun _ => q2) (fun z => absurd z (by omega))).1 (by omega), (g 3 (by omega) (fun z => absurd z (by omega)) (fun _ => q3)).2 (by omega), (g 4 (by omega) (fun z => absurd z (by omega)) (fun _ => q4)).2 (by omega)⟩
theorem i_nat {p : Int32} (h : 0 ≤ p.toInt) : p = iI ((p.toInt.toNat : Nat) : Int) := by
  rw [show ((p.toInt.toNat : Nat) : Int) = p.toInt by omega]; exact iI_of p
theorem sq_setCapacity {s : Nat → Nat} (hW : WF s) {ps : List (Nat → Nat)} (hl : ps.length ≤ 8) {p1 : Int32} {t_frontierFresh : Int32} {t_searchFresh : Int32} {t_layersFresh : Int32} {t_past_count : Int32} {t_now_items : Int32} {t_now_capacity : Int32} {t_now_limit : Int32} {t_now_mustSet : Int32} {t_now_neverSet : Int32} {t_now_hand : Int32} {t_now_weight : Nat → Int32} {t_now_gain : Nat → Int32} {t_now_joy : Nat → Int32} {t_now_bars : Nat → Int32} {t_now_needs : Nat → Int32} {t_past_setups_pq : Nat → Nat → Nat} {t_past_setups_pi : Nat → Nat → Int32} {t_past_setups_pr : Nat → Nat → Nat → Int32} {Q : Int32 → Int32 → Int32 → Int32 → Int32 → Int32 → (Nat → Nat → Nat) → (Nat → Nat → Int32) → (Nat → Nat → Nat → Int32) → Prop} {QX : String → Int32 → Int32 → Int32 → Int32 → Int32 → (Nat → Nat → Nat) → (Nat → Nat → Int32) → (Nat → Nat → Nat → Int32) → Prop} (hP : paP ps t_past_count t_past_setups_pi t_past_setups_pr) (hS : suP s t_now_items t_now_capacity t_now_limit t_now_mustSet t_now_neverSet t_now_hand t_now_weight t_now_gain t_now_joy t_now_bars t_now_needs) (hQ : 0 ≤ p1.toInt ∧ p1.toInt ≤ 999 → ∀ count pq pi pr, paP (pshL ps s) count pi pr → Q (iI (s 1)) 0 0 0 count p1 pq pi pr) (hX : ¬ (0 ≤ p1.toInt ∧ p1.toInt ≤ 999) → QX "java/lang/IllegalArgumentException" t_frontierFresh t_searchFresh t_layersFresh t_past_count t_now_capacity t_past_setups_pq t_past_setups_pi t_past_setups_pr) : wp_X10_setCapacity p1 t_frontierFresh t_searchFresh t_layersFresh t_past_count t_now_items t_now_capacity t_now_limit t_now_mustSet t_now_neverSet t_now_hand t_now_weight t_now_gain t_now_joy t_now_bars t_now_needs t_past_setups_pq t_past_setups_pi t_past_setups_pr Q QX := by
  unfold wp_X10_setCapacity wp_X10_requireCapacity
  have e : (999 : Int32).toInt = 999 := by decide
  rw [i_lt0, i_le, e]
  refine ⟨fun c => hX (by omega), fun c => ⟨fun d => sp_push hW hl hP hS fun count pq pi pr h => ?_, fun d => hX (by omega)⟩⟩
  have := hQ ⟨by omega, d⟩ count pq pi pr h
  rw [← hS.2.1] at this
  exact this
