/-! THE SETUP'S NUMBERS -/
def pcs (s : Nat → Nat) (w : Nat) : Nat → Nat
  | 0 => 0
  | n + 1 => pcs s w n + pcn (s (6 + 5 * n + w)) 12
def prv7 (s : Nat → Nat) (w : Nat) : Int32 :=
  if w = 0 then iI (s 0) else if w = 1 then iI (s 1) else if w = 2 then iI (s 2) else if w = 3 then iI (pcs s 3 (s 0) : Nat) / 2 else if w = 4 then iI (pcs s 4 (s 0) : Nat) else if w = 5 then iI (s 3) else if w = 6 then iI (s 4) else iI (s 5)
theorem sp_countBits {s : Nat → Nat} (hW : WF s) {items : Int32} (hi : items = iI (s 0)) {w : Nat} {t1 : Nat → Int32} (ht : ∀ k, k < s 0 → t1 k = iI (s (6 + 5 * k + w) : Nat) ∧ s (6 + 5 * k + w) < 4096) {Q : Int32 → Prop} (hQ : Q (iI (pcs s w (s 0) : Nat))) : wp_X8_countBits items t1 Q := by
  have h12 := hW.1
  subst hi
  have key : ∀ (d n : Nat), n + d = s 0 → wp_X8_countBits_L4 (iI (s 0)) t1 Q (d + 1) (iI (pcs s w n : Nat)) (iI (n : Nat)) := by
    intro d
    induction d with
    | zero =>
      intro n hn
      unfold wp_X8_countBits_L4
      obtain rfl : n = s 0 := by omega
      exact ⟨fun _ => hQ, fun z => absurd (Int32.le_refl _) z⟩
    | succ d ih =>
      intro n hn
      have nx := ih (n + 1) (by omega)
      obtain ⟨e1, e2⟩ := ht n (by omega)
      unfold wp_X8_countBits_L4
      rw [iI_le (by omega) (by omega) (by omega) (by omega), iI_clN (by omega), e1, iI_succ]
      refine ⟨fun z => absurd z (by omega), fun _ => ⟨in_lit (by omega) (by omega), sp_bitCount e2 fun v hv => ?_⟩⟩
      rw [iI_add] at hv
      subst hv
      exact nx
  unfold wp_X8_countBits
  exact ⟨s 0 + 1, by rw [iI_lit 0]; exact key (s 0) 0 (by omega)⟩
theorem sq_property {s : Nat → Nat} (hW : WF s) {t_now_weight t_now_gain t_now_joy : Nat → Int32} {p1 : Int32} {t_now_items : Int32} {t_now_capacity : Int32} {t_now_limit : Int32} {t_now_mustSet : Int32} {t_now_neverSet : Int32} {t_now_hand : Int32} {t_now_needs : Nat → Int32} {t_now_bars : Nat → Int32} {Q : Int32 → Prop} {QX : String → Prop} (hS : suP s t_now_items t_now_capacity t_now_limit t_now_mustSet t_now_neverSet t_now_hand t_now_weight t_now_gain t_now_joy t_now_bars t_now_needs) (hQ : 0 ≤ p1.toInt ∧ p1.toInt ≤ 7 → Q (prv7 s p1.toInt.toNat)) (hX : ¬ (0 ≤ p1.toInt ∧ p1.toInt ≤ 7) → QX "java/lang/IllegalArgumentException") : wp_X10_property p1 t_now_items t_now_capacity t_now_limit t_now_mustSet t_now_neverSet t_now_hand t_now_needs t_now_bars Q QX := by
  have hp := wf_pow hW
  obtain ⟨s0, s1, s2, s3, s4, s5, s6⟩ := hS
  have hb : ∀ k, k < s 0 → t_now_bars k = iI (s (6 + 5 * k + 3) : Nat) ∧ s (6 + 5 * k + 3) < 4096 := fun k hk => by
    have := hW.2.2.2.2.2.2 k hk
    exact ⟨(s6 k hk).2.2.2.1, by omega⟩
  have hn : ∀ k, k < s 0 → t_now_needs k = iI (s (6 + 5 * k + 4) : Nat) ∧ s (6 + 5 * k + 4) < 4096 := fun k hk => by
    have := hW.2.2.2.2.2.2 k hk
    exact ⟨(s6 k hk).2.2.2.2, by omega⟩
  unfold wp_X10_property
  refine sp_reqWhat (k := 7) rfl (fun h => ?_) hX
  have ans := hQ h
  obtain ⟨k, hk⟩ : ∃ k : Nat, p1.toInt = k := ⟨p1.toInt.toNat, by omega⟩
  rw [hk, Int.toNat_natCast] at ans
  rw [i_eqv (p := p1) (v := 0) (k := 0) rfl, i_eqv (p := p1) (v := 1) (k := 1) rfl, i_eqv (p := p1) (v := 2) (k := 2) rfl, i_eqv (p := p1) (v := 3) (k := 3) rfl, i_eqv (p := p1) (v := 4) (k := 4) rfl, i_eqv (p := p1) (v := 5) (k := 5) rfl, i_eqv (p := p1) (v := 6) (k := 6) rfl, hk]
  refine ⟨fun c => ?_, fun c => ?_, fun c => ?_, fun c => ?_, fun c => ?_, fun c => ?_, fun c => ?_, fun c0 c1 c2 c3 c4 c5 c6 => ?_⟩
  · rw [show k = 0 by omega] at ans; rw [s0]; exact ans
  · rw [show k = 1 by omega] at ans; rw [s1]; exact ans
  · rw [show k = 2 by omega] at ans; rw [s2]; exact ans
  · rw [show k = 3 by omega] at ans; exact sp_countBits hW s0 hb ans
  · rw [show k = 4 by omega] at ans; exact sp_countBits hW s0 hn ans
  · rw [show k = 5 by omega] at ans; rw [s3]; exact ans
  · rw [show k = 6 by omega] at ans; rw [s4]; exact ans
  · rw [show k = 7 by omega] at ans; rw [s5]; exact ans
