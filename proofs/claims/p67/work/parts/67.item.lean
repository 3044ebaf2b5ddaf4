/-! AN ITEM'S NUMBERS -/
theorem sq_item {s : Nat → Nat} (hW : WF s) {hand t_now_capacity t_now_limit t_now_mustSet t_now_neverSet : Int32} {p1 : Int32} {p2 : Int32} {t_now_items : Int32} {t_now_needs : Nat → Int32} {t_now_bars : Nat → Int32} {t_now_joy : Nat → Int32} {t_now_gain : Nat → Int32} {t_now_weight : Nat → Int32} {Q : Int32 → Prop} {QX : String → Prop} (hS : suP s t_now_items t_now_capacity t_now_limit t_now_mustSet t_now_neverSet hand t_now_weight t_now_gain t_now_joy t_now_bars t_now_needs) (hQ : 0 ≤ p1.toInt ∧ p1.toInt < s 0 → 0 ≤ p2.toInt ∧ p2.toInt ≤ 4 → Q (iI (s (6 + 5 * p1.toInt.toNat + p2.toInt.toNat) : Nat))) (hX1 : ¬ (0 ≤ p1.toInt ∧ p1.toInt < s 0) → QX "java/lang/IndexOutOfBoundsException") (hX2 : 0 ≤ p1.toInt ∧ p1.toInt < s 0 → ¬ (0 ≤ p2.toInt ∧ p2.toInt ≤ 4) → QX "java/lang/IllegalArgumentException") : wp_X10_item p1 p2 t_now_items t_now_needs t_now_bars t_now_joy t_now_gain t_now_weight Q QX := by
  have h12 := hW.1
  unfold wp_X10_item
  refine sp_reqItem hW hS.1 (fun h => sp_reqWhat (k := 4) rfl (fun h2 => ?_) (fun h2 => hX2 h h2)) hX1
  have ans := hQ h h2
  obtain ⟨n, hn⟩ : ∃ n : Nat, p1.toInt = n := ⟨p1.toInt.toNat, by omega⟩
  obtain ⟨k, hk⟩ : ∃ k : Nat, p2.toInt = k := ⟨p2.toInt.toNat, by omega⟩
  have hcl : p1.toNatClampNeg = n := by show p1.toInt.toNat = n; omega
  have hin : vp_in p1 12 := by rw [vp_in_iff]; omega
  obtain ⟨-, -, -, -, -, -, hI⟩ := hS
  obtain ⟨w1, w2, w3, w4, w5⟩ := hI n (by omega)
  rw [hn, hk, Int.toNat_natCast, Int.toNat_natCast] at ans
  rw [hcl, w1, w2, w3, w4, w5, i_eqv (p := p2) (v := 0) (k := 0) rfl, i_eqv (p := p2) (v := 1) (k := 1) rfl, i_eqv (p := p2) (v := 2) (k := 2) rfl, i_eqv (p := p2) (v := 3) (k := 3) rfl, hk]
  refine ⟨fun c => ⟨hin, ?_⟩, fun c => ⟨hin, ?_⟩, fun c => ⟨hin, ?_⟩, fun c => ⟨hin, ?_⟩, fun c0 c1 c2 c3 => ⟨hin, ?_⟩⟩
  · rw [show k = 0 by omega] at ans; exact ans
  · rw [show k = 1 by omega] at ans; exact ans
  · rw [show k = 2 by omega] at ans; exact ans
  · rw [show k = 3 by omega] at ans; exact ans
  · rw [show k = 4 by omega] at ans; exact ans
