/-! ONE STEP, as the reference answers it -/
def stv (h : Nat → Int) (k w : Nat) : Int :=
  if w = 0 then (SRf h (SX h) k : Int) else if w = 1 then (SRt h (SX h) k : Int) else if w = 2 then PJ h (SRf h (SX h) k) - PJ h (SRt h (SX h) k) else if w = 3 then (PG h (SRt h (SX h) k) : Int) - PG h (SRf h (SX h) k) else SRd h (SX h) k
theorem sfx_I {h : Nat → Int} (hs : stP h) : ∀ (d x : Nat), x + d = 2376 → SRI h x → SRI h (sfx h d x) ∧ SRc h (sfx h d x) ≤ sfx h d x
  | 0, x, hx, hI => by
    have := SRI_le hI
    have := hI.1
    omega
  | d + 1, x, hx, hI => by
    have := SRI_le hI
    have := hI.1
    simp only [sfx]
    split
    · rename_i c; exact ⟨hI, c⟩
    · exact sfx_I hs d (x + 1) (by omega) (SRI_step hs hI (by omega))
/-- the ends of a step that was taken -/
theorem SX_ends {h : Nat → Int} (hs : stP h) {k : Nat} (hk : k < SX h) : SRf h (SX h) k < SRt h (SX h) k ∧ SRt h (SX h) k < PN h := by
  obtain ⟨hI, hc⟩ := sfx_I hs 2376 0 (by omega) (SRI_0 hs)
  have h1 := hI.1
  have := hI.2.1 k (show k < SRc h (SX h) from Nat.lt_of_lt_of_le hk h1)
  exact ⟨this.1, this.2.1⟩
theorem sr_step {s : Nat → Nat} (hW : WF s) {p1 : Int32} {p2 : Int32} {t_thrown : Int32} {t_allowedMany : Int32} {t_pointMany : Int32} {t_stepMany : Int32} {t_queued : Int32} {t_joyAt : Nat → Int32} {t_row : Nat → Int32} {t_pointAt : Nat → Int32} {t_pointGain : Nat → Int32} {t_pointJoy : Nat → Int32} {t_pointTimes : Nat → Int32} {t_steps : Nat → Int32} {Q : Int32 → Int32 → Int32 → Int32 → Int32 → Int32 → (Nat → Int32) → (Nat → Int32) → (Nat → Int32) → (Nat → Int32) → (Nat → Int32) → (Nat → Int32) → Prop} (hN : neP s t_row) (hQ : ∀ am pm sm qu ja pa g j ti st, Q (if (0 ≤ p2.toInt ∧ p2.toInt ≤ 4) ∧ (0 ≤ p1.toInt ∧ p1.toInt < (SX (HH s) : Int)) then iI (stv (HH s) p1.toInt.toNat p2.toInt.toNat) else 0) (if 0 ≤ p2.toInt ∧ p2.toInt ≤ 4 then if 0 ≤ p1.toInt ∧ p1.toInt < (SX (HH s) : Int) then 0 else 2 else 1) am pm sm qu ja pa g j ti st) : wp_X11_step p1 p2 t_thrown t_allowedMany t_pointMany t_stepMany t_queued t_joyAt t_row t_pointAt t_pointGain t_pointJoy t_pointTimes t_steps Q := by
  have hs := HH_stP hW
  have hx := SX_le hs
  have hN2 := PN_le (HH s)
  unfold wp_X11_step
  refine sp_search hW hN fun am pm sm qu ja pa g j ti st hM h1 h2 => ?_
  have ans := hQ am pm sm qu ja pa g j ti st
  refine sp_in0 (k := 4) rfl (sp_inN (by omega) h1 (sp_passes2 ?_))
  by_cases c : 0 ≤ p2.toInt ∧ p2.toInt ≤ 4
  · rw [if_pos c]
    rw [if_pos c] at ans
    by_cases d : 0 ≤ p1.toInt ∧ p1.toInt < (SX (HH s) : Int)
    · rw [if_pos d]
      rw [if_pos ⟨c, d⟩, if_pos d] at ans
      refine ⟨fun _ => ?_, fun z => absurd z (by decide)⟩
      obtain ⟨n, hn⟩ : ∃ n : Nat, p1.toInt = n := ⟨p1.toInt.toNat, by omega⟩
      obtain ⟨k, hk⟩ : ∃ k : Nat, p2.toInt = k := ⟨p2.toInt.toNat, by omega⟩
      have ep : p1 = iI (n : Nat) := by rw [iI_of p1, hn]
      obtain ⟨e1, e2, e3⟩ := h2 n (by omega)
      obtain ⟨b1, b2⟩ := SX_ends hs (k := n) (by omega)
      rw [hn, hk, Int.toNat_natCast, Int.toNat_natCast] at ans
      have t0 : ((3 : Int32) * p1) + 0 = iI ((3 * n : Nat) : Int) := by rw [ep, iI_lit 0]; exact i3 n (w := 0) (by omega)
      have t1 : ((3 : Int32) * p1) + 1 = iI ((3 * n + 1 : Nat) : Int) := by rw [ep, iI_lit 1]; exact i3 n (w := 1) (by omega)
      have t2 : ((3 : Int32) * p1) + 2 = iI ((3 * n + 2 : Nat) : Int) := by rw [ep, iI_lit 2]; exact i3 n (w := 2) (by omega)
      rw [t0, t1, t2, iI_clN (by omega), iI_clN (by omega), iI_clN (by omega), e1, e2, e3, i_eqv (p := p2) (v := 0) (k := 0) rfl, i_eqv (p := p2) (v := 1) (k := 1) rfl, i_eqv (p := p2) (v := 2) (k := 2) rfl, i_eqv (p := p2) (v := 3) (k := 3) rfl, hk, ep]
      refine ⟨fun w => ⟨in_lit (by omega) (by omega), ?_⟩, fun w => ⟨in_lit (by omega) (by omega), ?_⟩, fun w => sp_stepP hM.2.2.2.2.2 (by omega) e1 e2 (by omega) b2 ?_, fun w => sp_stepQ hM.2.2.2.2.1 (by omega) e1 e2 (by omega) b2 ?_, fun w0 w1 w2 w3 => ⟨in_lit (by omega) (by omega), ?_⟩⟩
      · rw [show k = 0 by omega] at ans; exact ans
      · rw [show k = 1 by omega] at ans; exact ans
      · rw [show k = 2 by omega] at ans; exact ans
      · rw [show k = 3 by omega] at ans; exact ans
      · rw [show k = 4 by omega] at ans; exact ans
    · rw [if_neg d]
      rw [if_neg (fun z => d z.2), if_neg d] at ans
      exact ⟨fun z => absurd rfl z, fun _ => ans⟩
  · rw [if_neg c]
    rw [if_neg (fun z => c z.1), if_neg c] at ans
    exact ⟨fun z => absurd rfl z, fun _ => ans⟩
