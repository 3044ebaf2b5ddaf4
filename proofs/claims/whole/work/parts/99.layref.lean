/-! LAYERS: the reference's two questions -/
theorem sl_lof55 {t_row : Nat → Int32} {t_thrown : Int32} {t_layerMany : Int32} {t_pairs : Nat → Int32} {t_layerJoy : Nat → Int32} {t_layerOfPair : Nat → Int32} {Q : Int32 → Int32 → Int32 → Int32 → (Nat → Int32) → (Nat → Int32) → (Nat → Int32) → Prop} {p : Nat} (hp : p ≤ 4096) {e : Nat → Int} {P : Int → Prop} (hR : rwP p e t_pairs) (hG : rgP p e) (hL : ∀ i, i < p → t_layerOfPair i = iI (LYR P (e i) : Nat)) {k : Nat} (hk : k < p) (hQ : Q (iI (LYR P (e k) : Nat)) t_thrown (iI (p : Nat)) t_layerMany t_pairs t_layerJoy t_layerOfPair) :
    ∀ (d x : Nat), x + d = k → wp_X11_layerOf_L55 t_row (iI (e k)) t_thrown (iI (p:Nat)) t_layerMany t_pairs t_layerJoy t_layerOfPair Q (d + 1) (iI (x : Nat)) := by
  have g := hG k hk
  have done_ : ∀ x, x ≤ k → e x = e k → vp_in (iI (x : Nat)) 4096 ∧ Q (t_layerOfPair (iI (x : Nat)).toNatClampNeg) t_thrown (iI (p : Nat)) t_layerMany t_pairs t_layerJoy t_layerOfPair := by
    intro x hx ex
    rw [iI_clN (by omega), hL x (by omega), ex]
    exact ⟨in_lit (by omega) (by omega), hQ⟩
  intro d
  induction d with
  | zero =>
    intro x hx
    obtain rfl : x = k := by omega
    unfold wp_X11_layerOf_L55
    refine ⟨in_lit (by omega) (by omega), fun _ => done_ x (Nat.le_refl _) rfl, fun z => absurd ?_ z⟩
    rw [iI_clN (by omega)]
    exact hR x hk
  | succ d ih =>
    intro x hx
    have g2 := hG x (by omega)
    unfold wp_X11_layerOf_L55
    refine ⟨in_lit (by omega) (by omega), fun z => done_ x (by omega) ?_, fun _ => ?_⟩
    · rw [iI_clN (by omega), hR x (by omega), iI_eq (by omega) (by omega) (by omega) (by omega)] at z
      exact z
    · rw [iI_s1]
      exact ih (x + 1) (by omega)
theorem sr_layerOf {s : Nat → Nat} (hW : WF s) {p1 : Int32} {t_thrown : Int32} {t_pairMany : Int32} {t_layerMany : Int32} {t_row : Nat → Int32} {t_pairs : Nat → Int32} {t_layerJoy : Nat → Int32} {t_layerOfPair : Nat → Int32} {Q : Int32 → Int32 → Int32 → Int32 → (Nat → Int32) → (Nat → Int32) → (Nat → Int32) → Prop} (hN : neP s t_row) (hQ : ∀ pm lm pr lj lo, Q (if 0 ≤ p1.toInt ∧ p1.toInt < ((2 ^ s 0 : Nat) : Int) then (if rf s (s 1) p1.toInt.toNat = 0 then iI (LYR (HAS s) (kyP s p1.toInt.toNat) : Nat) else -1) else 0) (if 0 ≤ p1.toInt ∧ p1.toInt < ((2 ^ s 0 : Nat) : Int) then 0 else 1) pm lm pr lj lo) : wp_X11_layerOf p1 t_thrown t_pairMany t_layerMany t_row t_pairs t_layerJoy t_layerOfPair Q := by
  have hp := wf_pow hW
  unfold wp_X11_layerOf
  refine sp_isSet hW hN (sp_passes ?_)
  by_cases a : 0 ≤ p1.toInt ∧ p1.toInt < ((2 ^ s 0 : Nat) : Int)
  · simp only [if_pos a] at hQ
    rw [if_pos a]
    refine ⟨fun z => absurd z (by decide), fun _ => ?_⟩
    have e1 := i_nat a.1
    have q0 : p1.toInt.toNat < 2 ^ s 0 := by omega
    have e2 : p1 = iI (p1.toInt.toNat : Nat) := e1
    generalize p1.toInt.toNat = q at e2 q0 hQ
    subst e2
    refine sp_isAllowed hW hN q0 ?_
    by_cases b : rf s (s 1) q = 0
    · rw [if_pos b]
      rw [if_pos b] at hQ
      refine ⟨fun _ => sp_layLayers hW hN fun p e pr lj lo h1 h2 h3 h4 h5 h6 => ?_, fun z => absurd z (by decide)⟩
      rw [iI_lit 1, iI_lit 2]
      refine sp_sumOf (w := 1) hW hN (by omega) (by omega) (sp_sumOf (w := 2) hW hN (by omega) (by omega) ?_)
      unfold wp_X11_pairOf
      have ek : (2048 : Int32) * iI (sm s 1 q (s 0) : Nat) + iI (sm s 2 q (s 0) : Nat) = iI (kyP s q) := by
        rw [show (2048 : Int32) = iI 2048 from rfl, iI_mul, iI_add]
        rfl
      rw [ek]
      obtain ⟨k, hk, ek2⟩ := (h5 (kyP s q)).mpr ⟨q, q0, b, rfl⟩
      rw [← ek2]
      refine ⟨k + 1, sl_lof55 h1 h2 h3 h6 hk ?_ k 0 (by omega)⟩
      rw [ek2]
      exact hQ _ _ _ _ _
    · rw [if_neg b]
      rw [if_neg b] at hQ
      exact ⟨fun z => absurd rfl z, fun _ => ⟨fun z => absurd rfl z, fun _ => hQ _ _ _ _ _⟩⟩
  · simp only [if_neg a] at hQ
    rw [if_neg a]
    exact ⟨fun _ => ⟨fun _ => hQ _ _ _ _ _, fun z => absurd z (by decide)⟩, fun z => absurd rfl z⟩
