/-! APPEND, TRUNCATE -/
theorem fits_b (x : Int32) (m : Nat) : fits .byte (.int (vp_nar .byte ((x >>> (iI ((8 * m : Nat) : Int) &&& 31)).toInt8.toInt32))) = true := by
  have h := bq_rng x m
  unfold bq at h
  generalize vp_nar .byte ((x >>> (iI ((8 * m : Nat) : Int) &&& 31)).toInt8.toInt32) = y at h ⊢
  have a : (-128 : Int32) ≤ y := Int32.le_iff_toInt_le.mpr (by rw [show (-128 : Int32).toInt = -128 from by decide]; exact h.1)
  have b : y ≤ (127 : Int32) := Int32.le_iff_toInt_le.mpr (by rw [show (127 : Int32).toInt = 127 from by decide]; exact h.2)
  simp only [fits, a, b, decide_true, Bool.and_true]
/-- the class's input: the bytes, and all its places hold bytes -/
def inP (n : Nat) (by_ : Nat → Int) (input : Nat → Int32) : Prop := txP n by_ input ∧ ∀ i, i < 600 → fits .byte (.int (input i)) = true
theorem inP_put {n : Nat} {by_ : Nat → Int} {input : Nat → Int32} (h : inP n by_ input) (hn : n < 600) (x : Int32) (m : Nat) : inP (n + 1) (fun i => if i = n then bq x m else by_ i) (upd input n (vp_nar .byte ((x >>> (iI ((8 * m : Nat) : Int) &&& 31)).toInt8.toInt32))) := by
  refine ⟨txP_put h.1 hn x m, fun i hi => ?_⟩
  by_cases e : i = n
  · rw [e, pk_us]; exact fits_b x m
  · rw [pk_un e]; exact h.2 i hi
theorem sl_put4 {Q : Int32 → (Nat → Int32) → Prop} (x : Int32) : ∀ (m n : Nat) (by_ : Nat → Int) (input : Nat → Int32), n + m ≤ 600 → m ≤ 4 → inP n by_ input → (∀ i2, inP (n + m) (apB x m n by_) i2 → Q (iI ((n + m : Nat) : Int)) i2) → wp_X10_putInput_L3 x Q (m + 1) (iI (8 * (m : Int) - 8)) (iI (n : Nat)) input := by
  intro m
  induction m with
  | zero =>
    intro n by_ input hn hm hT hQ
    unfold wp_X10_putInput_L3
    exact ⟨fun _ => hQ input hT, fun z => absurd (by decide) z⟩
  | succ m ih =>
    intro n by_ input hn hm hT hQ
    unfold wp_X10_putInput_L3
    rw [show (8 * ((m + 1 : Nat) : Int) - 8) = ((8 * m : Nat) : Int) by omega, show (-8 : Int32) = iI (-8) from rfl, iI_add, iI_clN (by omega), iI_s1, show (((8 * m : Nat) : Int) + -8) = 8 * (m : Int) - 8 by omega, iI_lit 0, iI_lt (by omega) (by omega) (by omega) (by omega), show (600 : Int32) = iI 600 from rfl, iI_le (by omega) (by omega) (by omega) (by omega)]
    refine ⟨fun z => by omega, fun _ => ⟨fun z => by omega, fun _ => ⟨in_lit (by omega) (by omega), ih (n + 1) _ _ (by omega) (by omega) (inP_put hT (by omega) x m) fun i2 h2 => ?_⟩⟩⟩
    rw [show n + 1 + m = n + (m + 1) by omega] at h2 ⊢
    exact hQ i2 h2
theorem sp_putInput {t_input : Nat → Int32} {Q : Int32 → (Nat → Int32) → Prop} {x : Int32} {n : Nat} {by_ : Nat → Int} (hn : n + 4 ≤ 600) (hT : inP n by_ t_input) (hQ : ∀ i2, inP (n + 4) (apB x 4 n by_) i2 → Q (iI ((n + 4 : Nat) : Int)) i2) : wp_X10_putInput x (iI (n:Nat)) t_input Q := by
  unfold wp_X10_putInput
  exact ⟨5, sl_put4 x 4 n by_ t_input hn (by omega) hT hQ⟩
def ap5 (a b c d e : Int32) (n : Nat) (by_ : Nat → Int) : Nat → Int := apB e 4 (n + 16) (apB d 4 (n + 12) (apB c 4 (n + 8) (apB b 4 (n + 4) (apB a 4 n by_))))
theorem sq_append {n : Nat} {by_ : Nat → Int} {p1 : Int32} {p2 : Int32} {p3 : Int32} {p4 : Int32} {p5 : Int32} {t_input : Nat → Int32} {Q : Int32 → Int32 → (Nat → Int32) → Prop} {QX : String → Int32 → (Nat → Int32) → Prop} (hT : inP n by_ t_input) (hQ : n ≤ 580 → ∀ i2, inP (n + 20) (ap5 p1 p2 p3 p4 p5 n by_) i2 → Q (iI ((n + 20 : Nat) : Int)) (iI ((n + 20 : Nat) : Int)) i2) (hX : ¬ n ≤ 580 → QX "java/lang/IllegalStateException" (iI (n : Nat)) t_input) : wp_X10_append p1 p2 p3 p4 p5 (iI (n:Nat)) t_input Q QX := by
  have hn := hT.1.1
  unfold wp_X10_append
  rw [show (580 : Int32) = iI 580 from rfl, iI_le (by omega) (by omega) (by omega) (by omega)]
  refine ⟨fun c => ?_, fun c => hX (by omega)⟩
  exact sp_putInput (by omega) hT fun i1 h1 => sp_putInput (by omega) h1 fun i2 h2 => sp_putInput (by omega) h2 fun i3 h3 => sp_putInput (by omega) h3 fun i4 h4 => sp_putInput (by omega) h4 fun i5 h5 => hQ (by omega) i5 h5
theorem sq_truncate {n : Nat} (hn : n ≤ 600) {p1 : Int32} {Q : Int32 → Prop} {QX : String → Int32 → Prop} (hQ : 0 ≤ p1.toInt ∧ p1.toInt ≤ n → Q (iI (p1.toInt.toNat : Nat))) (hX : ¬ (0 ≤ p1.toInt ∧ p1.toInt ≤ n) → QX "java/lang/IllegalArgumentException" (iI (n : Nat))) : wp_X10_truncate p1 (iI (n:Nat)) Q QX := by
  have e : (iI (n : Nat)).toInt = n := iI_toInt (by omega) (by omega)
  unfold wp_X10_truncate
  rw [i_lt0, Int32.le_iff_toInt_le, e]
  refine ⟨fun c => hX (by omega), fun c => ⟨fun d => ?_, fun d => hX (by omega)⟩⟩
  have := hQ ⟨by omega, d⟩
  rw [← i_nat (by omega)] at this
  exact this
