theorem in66 {k : Nat} (h : k < 66) : vp_in (iI (k : Nat)) 66 := iI_inN h (by omega)
theorem lgl (x y : Int64) : lg_cmp x y < 0 ↔ x.toInt < y.toInt := by
  unfold lg_cmp
  simp only [gt_iff_lt, Int64.lt_iff_toInt_lt, ← Int64.toInt_inj]
  by_cases h1 : y.toInt < x.toInt
  · rw [if_pos h1]; exact ⟨fun h => absurd h (by decide), fun h => absurd h (by omega)⟩
  · rw [if_neg h1]
    by_cases h2 : x.toInt = y.toInt
    · rw [if_pos h2]; exact ⟨fun h => absurd h (by decide), fun h => absurd h (by omega)⟩
    · rw [if_neg h2]; exact ⟨fun _ => by omega, fun _ => by decide⟩
theorem lgg (x y : Int64) : 0 < lg_cmp x y ↔ y.toInt < x.toInt := by
  unfold lg_cmp
  simp only [gt_iff_lt, Int64.lt_iff_toInt_lt, ← Int64.toInt_inj]
  by_cases h1 : y.toInt < x.toInt
  · rw [if_pos h1]; exact ⟨fun _ => h1, fun _ => by decide⟩
  · rw [if_neg h1]
    by_cases h2 : x.toInt = y.toInt
    · rw [if_pos h2]; exact ⟨fun h => absurd h (by decide), fun h => absurd h (by omega)⟩
    · rw [if_neg h2]; exact ⟨fun h => absurd h (by decide), fun h => absurd h (by omega)⟩
theorem sp_in {a b c : Int64} {Q : Int32 → Prop} (hQ : Q (if b.toInt ≤ a.toInt ∧ a.toInt ≤ c.toInt then 1 else 0)) : wp_X11_in a b c Q := by
  unfold wp_X11_in
  rw [lgl, lgg]
  refine ⟨fun h => ?_, fun h => ⟨fun h2 => ?_, fun h2 => ?_⟩⟩
  · rw [if_neg (by omega)] at hQ; exact hQ
  · rw [if_neg (by omega)] at hQ; exact hQ
  · rw [if_pos (by omega)] at hQ; exact hQ
theorem nz_if {c : Prop} [Decidable c] : nzR .boolean (if c then 1 else 0) := by split <;> rfl
theorem sp_many {s : Nat → Nat} {row : Nat → Int32} (hN : neP s row) {Q : Int32 → Prop} (hQ : Q (iI (s 0))) : wp_X11_many row Q := by
  unfold wp_X11_many
  rw [show (0 : Int32).toNatClampNeg = 0 from rfl, hN.1 0 (by omega)]
  exact ⟨by rw [iI_lit 0]; exact in66 (by omega), hQ⟩
theorem sp_isItem {s : Nat → Nat} (hW : WF s) {row : Nat → Int32} (hN : neP s row) {p : Int32} {Q : Int32 → Prop} (hQ : Q (if 0 ≤ p.toInt ∧ p.toInt < s 0 then 1 else 0)) : wp_X11_isItem p row Q := by
  have h := hW.1
  unfold wp_X11_isItem
  refine sp_many hN (sp_in ?_)
  rw [Int32.toInt_toInt64, Int32.toInt_toInt64, iI_lit 1, iI_sub, iI_toInt (by omega) (by omega), show (0 : Int64).toInt = 0 from rfl]
  refine ⟨nz_if, ?_⟩
  by_cases c : 0 ≤ p.toInt ∧ p.toInt < s 0
  · rw [if_pos c] at hQ; rw [if_pos (by omega)]; exact hQ
  · rw [if_neg c] at hQ; rw [if_neg (by omega)]; exact hQ
theorem sp_allSets {s : Nat → Nat} (hW : WF s) {row : Nat → Int32} (hN : neP s row) {Q : Int32 → Prop} (hQ : Q (iI ((2 ^ s 0 : Nat) : Int))) : wp_X11_allSets row Q := by
  have h := hW.1
  unfold wp_X11_allSets
  refine sp_many hN ?_
  rw [iI_shl1 (s 0) (by omega)]
  exact hQ
theorem sp_isSet {s : Nat → Nat} (hW : WF s) {row : Nat → Int32} (hN : neP s row) {p : Int32} {Q : Int32 → Prop} (hQ : Q (if 0 ≤ p.toInt ∧ p.toInt < ((2 ^ s 0 : Nat) : Int) then 1 else 0)) : wp_X11_isSet p row Q := by
  have h := wf_pow hW
  have h2 := Nat.two_pow_pos (s 0)
  unfold wp_X11_isSet
  refine sp_allSets hW hN (sp_in ?_)
  generalize 2 ^ s 0 = N at h h2 hQ ⊢
  rw [Int32.toInt_toInt64, Int32.toInt_toInt64, iI_lit 1, iI_sub, iI_toInt (by omega) (by omega), show (0 : Int64).toInt = 0 from rfl]
  refine ⟨nz_if, ?_⟩
  by_cases c : 0 ≤ p.toInt ∧ p.toInt < (N : Int)
  · rw [if_pos c] at hQ; rw [if_pos (by omega)]; exact hQ
  · rw [if_neg c] at hQ; rw [if_neg (by omega)]; exact hQ
theorem sp_passes2 {a b : Prop} [Decidable a] [Decidable b] {th : Int32} {Q : Int32 → Int32 → Prop} (hQ : if a then (if b then Q 1 0 else Q 0 2) else Q 0 1) : wp_X11_passes2 (if a then 1 else 0) (if b then 1 else 0) th Q := by
  unfold wp_X11_passes2
  by_cases ha : a <;> by_cases hb : b <;> simp only [ha, hb, if_true, if_false] at hQ ⊢ <;> simp [hQ]
theorem sp_passes {a : Prop} [Decidable a] {th : Int32} {Q : Int32 → Int32 → Prop} (hQ : if a then Q 1 0 else Q 0 1) : wp_X11_passes (if a then 1 else 0) th Q := by
  unfold wp_X11_passes
  have := sp_passes2 (a := a) (b := True) (th := th) (Q := fun r3 u => nzR .boolean r3 ∧ Q r3 u) (by
    by_cases ha : a <;> simp only [ha, if_true, if_false] at hQ ⊢ <;> exact ⟨rfl, hQ⟩)
  simpa using this
theorem sp_has {set k : Nat} (hs : set < 2147483648) (hk : k < 32) {Q : Int32 → Prop} (hQ : Q (if set.testBit k then 1 else 0)) : wp_X11_has (iI set) (iI (k : Nat)) Q := by
  unfold wp_X11_has
  rw [iI_bit hs hk]
  by_cases c : set.testBit k
  · rw [if_pos c] at hQ ⊢
    exact ⟨fun h => absurd rfl h, fun _ => hQ⟩
  · rw [if_neg c] at hQ ⊢
    exact ⟨fun _ => hQ, fun h => absurd h (by decide)⟩
theorem ix_item (k w : Nat) : ((6 : Int32) + ((5 : Int32) * iI (k : Nat))) + iI (w : Nat) = iI ((6 + 5 * k + w : Nat) : Int) := by
  rw [iI_lit 6, iI_lit 5, iI_mul, iI_add, iI_add]
  congr 1
theorem sp_ofItem {s : Nat → Nat} (hW : WF s) {row : Nat → Int32} (hN : neP s row) {k w : Nat} (hk : k < s 0) (hw : w < 5) {Q : Int32 → Prop} (hQ : Q (iI (s (6 + 5 * k + w)))) : wp_X11_ofItem (iI (k : Nat)) (iI (w : Nat)) row Q := by
  have h := hW.1
  unfold wp_X11_ofItem
  rw [ix_item, iI_clN (by omega), hN.2 k w hk hw]
  exact ⟨in66 (by omega), hQ⟩
theorem sp_sumOf {s : Nat → Nat} (hW : WF s) {row : Nat → Int32} (hN : neP s row) {set w : Nat} (hs : set < 4096) (hw : w < 3) {Q : Int32 → Prop} (hQ : Q (iI (sm s w set (s 0) : Nat))) : wp_X11_sumOf (iI set) (iI (w : Nat)) row Q := by
  have h := hW.1
  have key : ∀ (d k : Nat), k + d = s 0 → wp_X11_sumOf_L5 row (iI set) (iI (w : Nat)) Q (d + 1) (iI (sm s w set k : Nat)) (iI (k : Nat)) := by
    intro d
    induction d with
    | zero =>
      intro k hk
      unfold wp_X11_sumOf_L5
      refine sp_many hN ?_
      rw [iI_le (by omega) (by omega) (by omega) (by omega)]
      obtain rfl : k = s 0 := by omega
      exact ⟨fun _ => hQ, fun c => absurd (Int.le_refl _) c⟩
    | succ d ih =>
      intro k hk
      unfold wp_X11_sumOf_L5
      refine sp_many hN ?_
      rw [iI_le (by omega) (by omega) (by omega) (by omega)]
      refine ⟨fun c => absurd c (by omega), fun _ => sp_has (by omega) (by omega) ?_⟩
      have e := ih (k + 1) (by omega)
      by_cases c : set.testBit k
      · rw [if_pos c]
        refine ⟨fun h => absurd h (by decide), fun _ => sp_ofItem hW hN (by omega) (by omega) ?_⟩
        intro v hv
        subst hv
        rw [iI_add, iI_succ]
        simp only [sm, c, if_true] at e
        exact e
      · rw [if_neg c]
        refine ⟨fun _ => ?_, fun h => absurd rfl h⟩
        intro v hv
        subst hv
        rw [iI_lit 0, iI_add, iI_succ]
        simp only [sm, c] at e
        exact e
  unfold wp_X11_sumOf
  refine ⟨s 0 + 1, ?_⟩
  have := key (s 0) 0 (by omega)
  simp only [sm] at this
  rw [iI_lit 0]
  exact this
theorem sp_bits {set : Nat} (hs : set < 4096) {Q : Int32 → Prop} (hQ : Q (iI (pcn set 12 : Nat))) : wp_X11_bits (iI set) Q := by
  have key : ∀ (d k : Nat), k + d = 12 → wp_X11_bits_L4 (iI set) Q (d + 1) (iI (pcn set k : Nat)) (iI (k : Nat)) := by
    intro d
    induction d with
    | zero =>
      intro k hk
      unfold wp_X11_bits_L4
      obtain rfl : k = 12 := by omega
      exact ⟨fun _ => hQ, fun c => absurd (by decide) c⟩
    | succ d ih =>
      intro k hk
      unfold wp_X11_bits_L4
      rw [iI_lit 12, iI_le (by omega) (by omega) (by omega) (by omega)]
      refine ⟨fun c => absurd c (by omega), fun _ v hv => ?_⟩
      rw [iI_bit (by omega) (by omega), iI_add] at hv
      subst hv
      rw [iI_succ]
      have e := ih (k + 1) (by omega)
      simp only [pcn] at e
      by_cases c : set.testBit k <;> simp only [c, if_true] at e ⊢ <;> exact e
  unfold wp_X11_bits
  refine ⟨13, ?_⟩
  have := key 12 0 (by omega)
  simp only [pcn] at this
  rw [iI_lit 0]
  exact this
theorem ors_and {s : Nat → Nat} {w set m : Nat} : ∀ n, ors s w set n &&& m = 0 ↔ ∀ k, k < n → set.testBit k = true → s (6 + 5 * k + w) &&& m = 0
  | 0 => by simp [ors]
  | n + 1 => by
    simp only [ors]
    rw [Nat.and_or_distrib_right, Nat.or_eq_zero_iff, ors_and n]
    constructor
    · intro ⟨h1, h2⟩ k hk hb
      by_cases e : k = n
      · subst e; rw [if_pos hb] at h2; exact h2
      · exact h1 k (by omega) hb
    · intro h
      refine ⟨fun k hk hb => h k (by omega) hb, ?_⟩
      by_cases hb : set.testBit n
      · rw [if_pos hb]; exact h n (by omega) hb
      · rw [if_neg hb]; exact Nat.zero_and m
theorem iI_z {z : Nat} (hz : z < 4096) : (iI (z : Nat) = (0 : Int32)) ↔ z = 0 := by
  rw [iI_lit 0]
  exact iI_inj4 hz (by omega)
theorem sp_isBarred {s : Nat → Nat} (hW : WF s) {row : Nat → Int32} (hN : neP s row) {set : Nat} (hs : set < 2 ^ s 0) {Q : Int32 → Prop} (hQ : Q (if ors s 3 set (s 0) &&& set ≠ 0 then 1 else 0)) : wp_X11_isBarred (iI set) row Q := by
  have h := hW.1
  have hp := wf_pow hW
  have key : ∀ (d k : Nat), k + d = s 0 → (∀ i, i < k → set.testBit i = true → s (6 + 5 * i + 3) &&& set = 0) → wp_X11_isBarred_L2 row (iI set) Q (d + 1) (iI (k : Nat)) := by
    intro d
    induction d with
    | zero =>
      intro k hk hI
      unfold wp_X11_isBarred_L2
      refine sp_many hN ?_
      rw [iI_le (by omega) (by omega) (by omega) (by omega)]
      obtain rfl : k = s 0 := by omega
      rw [if_neg (fun c => c ((ors_and (s 0)).mpr hI))] at hQ
      exact ⟨fun _ => hQ, fun c => absurd (Int.le_refl _) c⟩
    | succ d ih =>
      intro k hk hI
      unfold wp_X11_isBarred_L2
      refine sp_many hN ?_
      rw [iI_le (by omega) (by omega) (by omega) (by omega)]
      refine ⟨fun c => absurd c (by omega), fun _ => sp_has (by omega) (by omega) ?_⟩
      by_cases c : set.testBit k
      · rw [if_pos c]
        refine ⟨fun h => absurd h (by decide), fun _ => sp_ofItem (w := 3) hW hN (by omega) (by omega) ?_⟩
        have hb := (hW.2.2.2.2.2.2 k (by omega)).2.2.2.1
        rw [iI_and, iI_z (Nat.lt_of_le_of_lt Nat.and_le_left (by omega)), iI_succ]
        refine ⟨fun e => ih (k + 1) (by omega) fun i hi hb => ?_, fun e => ?_⟩
        · by_cases q : i = k
          · subst q; exact e
          · exact hI i (by omega) hb
        · rw [if_pos (fun z => e ((ors_and (s 0)).mp z k (by omega) c))] at hQ
          exact hQ
      · rw [if_neg c, iI_succ]
        refine ⟨fun _ => ih (k + 1) (by omega) fun i hi hb => ?_, fun h => absurd rfl h⟩
        by_cases q : i = k
        · subst q; exact absurd hb c
        · exact hI i (by omega) hb
  unfold wp_X11_isBarred
  exact ⟨s 0 + 1, by rw [iI_lit 0]; exact key (s 0) 0 (by omega) (fun i hi => absurd hi (by omega))⟩
theorem sp_doesLack {s : Nat → Nat} (hW : WF s) {row : Nat → Int32} (hN : neP s row) {set : Nat} (hs : set < 2 ^ s 0) {Q : Int32 → Prop} (hQ : Q (if ors s 4 set (s 0) &&& (4095 ^^^ set) ≠ 0 then 1 else 0)) : wp_X11_doesLack (iI set) row Q := by
  have h := hW.1
  have hp := wf_pow hW
  have key : ∀ (d k : Nat), k + d = s 0 → (∀ i, i < k → set.testBit i = true → s (6 + 5 * i + 4) &&& (4095 ^^^ set) = 0) → wp_X11_doesLack_L2 row (iI set) Q (d + 1) (iI (k : Nat)) := by
    intro d
    induction d with
    | zero =>
      intro k hk hI
      unfold wp_X11_doesLack_L2
      refine sp_many hN ?_
      rw [iI_le (by omega) (by omega) (by omega) (by omega)]
      obtain rfl : k = s 0 := by omega
      rw [if_neg (fun c => c ((ors_and (s 0)).mpr hI))] at hQ
      exact ⟨fun _ => hQ, fun c => absurd (Int.le_refl _) c⟩
    | succ d ih =>
      intro k hk hI
      unfold wp_X11_doesLack_L2
      refine sp_many hN ?_
      rw [iI_le (by omega) (by omega) (by omega) (by omega)]
      refine ⟨fun c => absurd c (by omega), fun _ => sp_has (by omega) (by omega) ?_⟩
      by_cases c : set.testBit k
      · rw [if_pos c]
        refine ⟨fun h => absurd h (by decide), fun _ => sp_ofItem (w := 4) hW hN (by omega) (by omega) ?_⟩
        have hb := (hW.2.2.2.2.2.2 k (by omega)).2.2.2.2
        rw [iI_andn (by omega), iI_z (Nat.lt_of_le_of_lt Nat.and_le_left (by omega)), iI_succ]
        refine ⟨fun e => ih (k + 1) (by omega) fun i hi hb => ?_, fun e => ?_⟩
        · by_cases q : i = k
          · subst q; exact e
          · exact hI i (by omega) hb
        · rw [if_pos (fun z => e ((ors_and (s 0)).mp z k (by omega) c))] at hQ
          exact hQ
      · rw [if_neg c, iI_succ]
        refine ⟨fun _ => ih (k + 1) (by omega) fun i hi hb => ?_, fun h => absurd rfl h⟩
        by_cases q : i = k
        · subst q; exact absurd hb c
        · exact hI i (by omega) hb
  unfold wp_X11_doesLack
  exact ⟨s 0 + 1, by rw [iI_lit 0]; exact key (s 0) 0 (by omega) (fun i hi => absurd hi (by omega))⟩
theorem sm_bd {s : Nat → Nat} (hW : WF s) {w : Nat} (hw : w < 3) (set : Nat) : sm s w set (s 0) ≤ 1188 := by
  have h := hW.1
  have : sm s w set (s 0) ≤ s 0 * 99 := sm_le fun k hk => by
    have := hW.2.2.2.2.2.2 k hk
    rcases (show w = 0 ∨ w = 1 ∨ w = 2 by omega) with rfl | rfl | rfl
    · exact this.1
    · exact this.2.1
    · exact this.2.2.1
  omega
theorem sp_refusalOf {s : Nat → Nat} (hW : WF s) {row : Nat → Int32} (hN : neP s row) {set : Nat} (hs : set < 2 ^ s 0) {Q : Int32 → Prop} (hQ : Q (iI (rf s (s 1) set : Nat))) : wp_X11_refusalOf (iI set) row Q := by
  have h := hW.1
  have hp := wf_pow hW
  have hc := hW.2.1
  have hl := hW.2.2.1
  have h3 := hW.2.2.2.1
  have h4 := hW.2.2.2.2.1
  have hsm := sm_bd hW (w := 0) (by omega) set
  have hpc := pcn_le set 12
  unfold rf rfb at hQ
  unfold wp_X11_refusalOf
  refine sp_sumOf (w := 0) hW hN (by omega) (by omega) ?_
  have i1 : vp_in (1 : Int32) 66 := by rw [iI_lit 1]; exact in66 (by omega)
  have i2 : vp_in (2 : Int32) 66 := by rw [iI_lit 2]; exact in66 (by omega)
  have i3 : vp_in (3 : Int32) 66 := by rw [iI_lit 3]; exact in66 (by omega)
  have i4 : vp_in (4 : Int32) 66 := by rw [iI_lit 4]; exact in66 (by omega)
  rw [show (1 : Int32).toNatClampNeg = 1 from rfl, show (2 : Int32).toNatClampNeg = 2 from rfl, show (3 : Int32).toNatClampNeg = 3 from rfl, show (4 : Int32).toNatClampNeg = 4 from rfl, hN.1 1 (by omega), hN.1 2 (by omega), hN.1 3 (by omega), hN.1 4 (by omega)]
  rw [iI_le (by omega) (by omega) (by omega) (by omega)]
  refine ⟨i1, fun c1 => sp_bits (by omega) ⟨i2, ?_⟩, fun c1 => ?_⟩
  · rw [if_neg (by omega)] at hQ
    rw [iI_le (by omega) (by omega) (by omega) (by omega)]
    refine ⟨fun c2 => sp_isBarred hW hN hs ?_, fun c2 => ?_⟩
    · rw [if_neg (by omega)] at hQ
      by_cases c3 : ors s 3 set (s 0) &&& set ≠ 0
      · rw [if_pos c3] at hQ ⊢
        exact ⟨fun e => absurd e (by decide), fun _ => hQ⟩
      · rw [if_neg c3] at hQ ⊢
        refine ⟨fun _ => sp_doesLack hW hN hs ?_, fun e => absurd rfl e⟩
        by_cases c4 : ors s 4 set (s 0) &&& (4095 ^^^ set) ≠ 0
        · rw [if_pos c4] at hQ ⊢
          exact ⟨fun e => absurd e (by decide), fun _ => hQ⟩
        · rw [if_neg c4] at hQ ⊢
          refine ⟨fun _ => ⟨i3, ?_⟩, fun e => absurd rfl e⟩
          rw [iI_andn (a := s 3) (by omega), iI_z (z := s 3 &&& (4095 ^^^ set)) (Nat.lt_of_le_of_lt Nat.and_le_left (by omega)), iI_and, iI_z (z := s 4 &&& set) (Nat.lt_of_le_of_lt Nat.and_le_left (by omega))]
          refine ⟨fun c5 => ⟨i4, fun c6 => ?_, fun c6 => ?_⟩, fun c5 => ?_⟩
          · rw [if_neg (by simpa using c5), if_neg (by simpa using c6)] at hQ
            exact hQ
          · rw [if_neg (by simpa using c5), if_pos c6] at hQ
            exact hQ
          · rw [if_pos c5] at hQ
            exact hQ
    · rw [if_pos (by omega)] at hQ
      exact hQ
  · rw [if_pos (by omega)] at hQ
    exact hQ
theorem rf_le (s : Nat → Nat) (cap set : Nat) : rf s cap set ≤ 6 := by
  unfold rf rfb
  repeat' split
  all_goals omega
theorem sp_isAllowed {s : Nat → Nat} (hW : WF s) {row : Nat → Int32} (hN : neP s row) {set : Nat} (hs : set < 2 ^ s 0) {Q : Int32 → Prop} (hQ : Q (if rf s (s 1) set = 0 then 1 else 0)) : wp_X11_isAllowed (iI set) row Q := by
  have hr := rf_le s (s 1) set
  unfold wp_X11_isAllowed
  refine sp_refusalOf hW hN hs ?_
  rw [iI_z (by omega)]
  refine ⟨fun c => ?_, fun c => ?_⟩
  · rw [if_neg c] at hQ; exact hQ
  · rw [if_pos c] at hQ; exact hQ
