/-! FEED: the text's bytes come into the desk -/
/-- character i of a text, 0 behind it -/
def ch (T : List Int32) (i : Nat) : Nat := (T.getD i 0).toInt.toNat
def asc (T : List Int32) : Prop := ∀ x ∈ T, 0 ≤ x.toInt ∧ x.toInt < 128
theorem chT_lt {T : List Int32} (h : asc T) (i : Nat) : ch T i < 128 := by
  unfold ch
  by_cases c : i < T.length
  · have e : T.getD i 0 = T[i] := by simp [List.getD, c]
    have := h _ (List.getElem_mem c)
    rw [e]
    omega
  · have e : T.getD i 0 = 0 := by simp [List.getD, c]
    rw [e]
    decide
theorem ch_e {T : List Int32} (h : asc T) (i : Nat) : T.getD i 0 = iI (ch T i : Nat) := by
  unfold ch
  by_cases c : i < T.length
  · have e : T.getD i 0 = T[i] := by simp [List.getD, c]
    have := h _ (List.getElem_mem c)
    rw [e, Int.toNat_of_nonneg this.1]
    exact iI_of _
  · have e : T.getD i 0 = 0 := by simp [List.getD, c]
    rw [e]
    rfl
theorem sp_lenT {T : List Int32} (h : T.length < 600000) {Q : Int32 → Prop} (hQ : Q (iI (T.length : Nat))) : wp_J0_length_8abf5 T Q := by
  unfold wp_J0_length_8abf5
  have e : Int32.ofNat T.length = iI (T.length : Nat) := iI_nI _
  have := iI_shr (n := T.length) (k := 0) (by omega) (by omega)
  rw [e, show ((0 : Int32) &&& 31) = (iI ((0 : Nat) : Int) &&& 31) from rfl, this]
  simp only [Nat.pow_zero, Nat.div_one]
  exact hQ
theorem sp_charT {T : List Int32} (hl : T.length < 600000) (h : asc T) {i : Nat} (hi : i < T.length) {Q : Int32 → Prop} (hQ : Q (iI (ch T i : Nat))) : wp_J0_charAt_5068e (iI (i : Nat)) T Q := by
  have e : Int32.ofNat T.length = iI (T.length : Nat) := iI_nI _
  have c := chT_lt h i
  obtain ⟨a, b⟩ := gw_c _ c
  unfold wp_J0_charAt_5068e wp_J1_charAt_3b067 wp_J0_checkIndex_df160 wp_J3_checkIndex_8e157
  rw [e, iI_lit 0, iI_lt (by omega) (by omega) (by omega) (by omega), iI_lt (by omega) (by omega) (by omega) (by omega), iI_clN (by omega)]
  refine ⟨fun z => by omega, fun _ => ⟨fun _ => ⟨in_lit hi (by omega), ?_⟩, fun z => by omega⟩⟩
  rw [← iI_lit 0, ch_e h i, a]
  exact ⟨congrArg Value.int b, congrArg Value.int b, hQ⟩
theorem shl8 (x : Int32) : x <<< ((8 : Int32) &&& 31) = x * 256 := by
  have e : ((8 : Int32) &&& 31) = 8 := by decide
  rw [e]
  apply Int32.toBitVec_inj.mp
  show x.toBitVec <<< ((8 : Int32).toBitVec.smod 32) = x.toBitVec * 256#32
  have e2 : ((8 : Int32).toBitVec.smod 32) = 8#32 := by decide
  rw [e2]
  apply BitVec.eq_of_toNat_eq
  simp [BitVec.toNat_mul, BitVec.toNat_shiftLeft, Nat.shiftLeft_eq]
theorem or8 {a c : Nat} (hc : c < 256) : (iI (a : Nat) <<< ((8 : Int32) &&& 31)) ||| iI (c : Nat) = iI ((256 * a + c : Nat) : Int) := by
  rw [shl8, show (256 : Int32) = iI ((256 : Nat) : Int) from rfl, iI_mul, show ((a : Int) * ((256 : Nat) : Int)) = ((256 * a : Nat) : Int) by omega, iI_or]
  congr 2
  exact (Nat.two_pow_add_eq_or_of_lt (i := 8) hc a).symm
/-- four characters as one number -/
def V4 (T : List Int32) (p : Nat) : Nat → Nat
  | 0 => 0
  | k + 1 => 256 * V4 T p k + ch T (p + k)
theorem sL_four {T : List Int32} (hl : T.length < 600000) (h : asc T) {p : Nat} (hp : p < 600000) {Q : Int32 → Prop} (hQ : Q (iI (V4 T p 4 : Nat))) : wp_L_four (iI (p : Nat)) T Q := by
  have key : ∀ (m k : Nat), k + m = 4 → wp_L_four_L4 T (iI (p : Nat)) Q (m + 1) (iI (V4 T p k : Nat)) (iI (k : Nat)) := by
    intro m
    induction m with
    | zero =>
      intro k hk
      unfold wp_L_four_L4
      obtain rfl : k = 4 := by omega
      exact ⟨fun _ => hQ, fun z => absurd (by decide) z⟩
    | succ m ih =>
      intro k hk
      unfold wp_L_four_L4
      have next := ih (k + 1) (by omega)
      simp only [V4] at next
      have c := chT_lt h (p + k)
      rw [show (4 : Int32) = iI ((4 : Nat) : Int) from rfl, iI_le (by omega) (by omega) (by omega) (by omega), iI_succ, iI_add, show ((p : Int) + (k : Int)) = ((p + k : Nat) : Int) by omega]
      refine ⟨fun z => by omega, fun _ => sp_lenT hl ?_⟩
      rw [iI_le (by omega) (by omega) (by omega) (by omega)]
      refine ⟨fun z v hv => ?_, fun z => sp_charT hl h (by omega) fun v hv => ?_⟩
      · have e0 : ch T (p + k) = 0 := by
          unfold ch
          have e : T.getD (p + k) 0 = 0 := by simp [List.getD, show ¬ p + k < T.length by omega]
          rw [e]; rfl
        rw [show (0 : Int32) = iI ((0 : Nat) : Int) from rfl, or8 (by omega)] at hv
        rw [e0] at next
        subst hv
        exact next
      · rw [or8 (by omega)] at hv
        subst hv
        exact next
  exact ⟨5, key 4 0 (by omega)⟩
theorem nar_b {z : Nat} (hz : z < 2147483648) (h : z % 256 < 128) : (vp_nar .byte ((iI (z : Nat)).toInt8.toInt32)).toInt = ((z % 256 : Nat) : Int) := by
  show (((iI (z : Nat)).toInt8.toInt32).toInt8.toInt32).toInt = _
  have e : ((iI (z : Nat)).toInt8.toInt32).toInt = ((z % 256 : Nat) : Int) := by
    rw [Int8.toInt_toInt32, Int32.toInt_toInt8, iI_toInt (by omega) (by omega)]
    have := Int.emod_add_mul_ediv (z : Int) 256
    rw [Int.bmod_def]
    omega
  have e2 : ((iI (z : Nat)).toInt8.toInt32) = iI ((z % 256 : Nat) : Int) := by rw [iI_of ((iI (z : Nat)).toInt8.toInt32), e]
  rw [e2, Int8.toInt_toInt32, Int32.toInt_toInt8, iI_toInt (by omega) (by omega), Int.bmod_def]
  omega
theorem bq_V4 {T : List Int32} (h : asc T) (p : Nat) : bq (iI (V4 T p 4 : Nat)) 3 = (ch T p : Int) ∧ bq (iI (V4 T p 4 : Nat)) 2 = (ch T (p + 1) : Int) ∧ bq (iI (V4 T p 4 : Nat)) 1 = (ch T (p + 2) : Int) ∧ bq (iI (V4 T p 4 : Nat)) 0 = (ch T (p + 3) : Int) := by
  have c0 := chT_lt h p
  have c1 := chT_lt h (p + 1)
  have c2 := chT_lt h (p + 2)
  have c3 := chT_lt h (p + 3)
  have e : V4 T p 4 = 256 * (256 * (256 * ch T p + ch T (p + 1)) + ch T (p + 2)) + ch T (p + 3) := by simp [V4]
  rw [e]
  generalize ch T p = a0 at *
  generalize ch T (p + 1) = a1 at *
  generalize ch T (p + 2) = a2 at *
  generalize ch T (p + 3) = a3 at *
  have g : ∀ m, m < 4 → (256 * (256 * (256 * a0 + a1) + a2) + a3) / 2 ^ (8 * m) % 256 < 128 → bq (iI ((256 * (256 * (256 * a0 + a1) + a2) + a3 : Nat) : Int)) m = (((256 * (256 * (256 * a0 + a1) + a2) + a3) / 2 ^ (8 * m) % 256 : Nat) : Int) := by
    intro m hm hlt
    unfold bq
    rw [iI_shr (by omega) (by omega)]
    exact nar_b (Nat.lt_of_le_of_lt (Nat.div_le_self _ _) (by omega)) hlt
  have e3 := g 3 (by omega)
  have e2 := g 2 (by omega)
  have e1 := g 1 (by omega)
  have e0 := g 0 (by omega)
  simp only [show 8 * 3 = 24 from rfl, show 8 * 2 = 16 from rfl, show 8 * 1 = 8 from rfl, show 8 * 0 = 0 from rfl, show 2 ^ 24 = 16777216 from rfl, show 2 ^ 16 = 65536 from rfl, show 2 ^ 8 = 256 from rfl, show 2 ^ 0 = 1 from rfl] at e3 e2 e1 e0
  refine ⟨?_, ?_, ?_, ?_⟩
  · rw [e3 (by omega)]; omega
  · rw [e2 (by omega)]; omega
  · rw [e1 (by omega)]; omega
  · rw [e0 (by omega)]; omega
theorem apB_V4 {T : List Int32} (h : asc T) (p : Nat) {by_ : Nat → Int} (hb : ∀ i, i < p → by_ i = (ch T i : Int)) : ∀ i, i < p + 4 → apB (iI (V4 T p 4 : Nat)) 4 p by_ i = (ch T i : Int) := by
  obtain ⟨b3, b2, b1, b0⟩ := bq_V4 h p
  intro i hi
  simp only [apB]
  split
  · rename_i e; rw [b0, e]
  · split
    · rename_i e; rw [b1, e]
    · split
      · rename_i e; rw [b2, e]
      · split
        · rename_i e; rw [b3, e]
        · exact hb i (by omega)
theorem min_I {a p : Nat} (h1 : a ≤ p) (h2 : p < 600000) : (if iI (a : Nat) < iI (p : Nat) then iI (a : Nat) else iI (p : Nat)) = iI (a : Nat) := by
  split
  · rfl
  · rename_i c
    rw [iI_lt (by omega) (by omega) (by omega) (by omega)] at c
    rw [show p = a by omega]
section
variable {s : Nat → Nat} {cc pp : Int}
theorem sL_feed {T : List Int32} (h : asc T) (hl : T.length ≤ 580) (h0 : 0 < T.length) {by_ : Nat → Int} {d : DT} (hI : IV s 0 by_ cc pp d) {Q : DT → Prop} (hQ : ∀ by2 d2, (∀ i, i < T.length → by2 i = (ch T i : Int)) → IV s T.length by2 cc pp d2 → Q d2) : wp_L_feed T d Q := by
  have key : ∀ (m p : Nat) (by_ : Nat → Int) (d : DT), p + m ≥ T.length → T.length + 19 ≥ p → p % 20 = 0 → (p = 0 → 0 < m) → (∀ i, i < p → by_ i = (ch T i : Int)) → IV s p by_ cc pp d → wp_L_feed_L4 T (fun (x2 : Int32) (d : DT) => wp_J0_length_8abf5 T (fun (r66 : Int32) => wpK_X10_truncate (if r66 < x2 then r66 else x2) d (fun (u72_2 : DT) => Q u72_2))) Q (m + 1) (iI (p : Nat)) (iI (p : Nat)) d := by
    intro m
    induction m with
    | zero =>
      intro p by_ d hp hp2 h20 hm hb hV
      unfold wp_L_feed_L4
      refine sp_lenT (by omega) ?_
      have hne : ¬ iI (p : Nat) = 0 := by rw [iI_lit 0, iI_eq (by omega) (by omega) (by omega) (by omega)]; omega
      rw [iI_lt (by omega) (by omega) (by omega) (by omega)]
      refine ⟨fun z => by omega, fun _ => ⟨fun _ => sp_lenT (by omega) ?_, fun z => absurd z hne⟩⟩
      have e : (if iI (T.length : Nat) < iI (p : Nat) then iI (T.length : Nat) else iI (p : Nat)) = iI (T.length : Nat) := by
        exact min_I (by omega) (by omega)
      rw [e]
      exact sN_truncate hV (by omega) fun d2 h2 => hQ by_ d2 (fun i hi => hb i (by omega)) h2
    | succ m ih =>
      intro p by_ d hp hp2 h20 hm hb hV
      unfold wp_L_feed_L4
      refine sp_lenT (by omega) ?_
      rw [iI_lt (by omega) (by omega) (by omega) (by omega)]
      refine ⟨fun z => ?_, fun z => ⟨fun _ => sp_lenT (by omega) ?_, fun c => ?_⟩⟩
      · unfold wp_L_feed_b16
        rw [show (4 : Int32) = iI ((4 : Nat) : Int) from rfl, show (8 : Int32) = iI ((8 : Nat) : Int) from rfl, show (12 : Int32) = iI ((12 : Nat) : Int) from rfl, show (16 : Int32) = iI ((16 : Nat) : Int) from rfl, show (20 : Int32) = iI ((20 : Nat) : Int) from rfl, iI_add, iI_add, iI_add, iI_add, iI_add]
        simp only [← Int.natCast_add]
        refine sL_four (by omega) h (by omega) (sL_four (by omega) h (by omega) (sL_four (by omega) h (by omega) (sL_four (by omega) h (by omega) (sL_four (by omega) h (by omega) (sK_append hV (by omega) fun d2 hV2 => ?_)))))
        refine ih (p + 20) _ d2 (by omega) (by omega) (by omega) (by omega) ?_ hV2
        have a0 := apB_V4 h p hb
        have a1 := apB_V4 h (p + 4) a0
        have a2 := apB_V4 h (p + 8) a1
        have a3 := apB_V4 h (p + 12) a2
        have a4 := apB_V4 h (p + 16) a3
        exact a4
      · have e : (if iI (T.length : Nat) < iI (p : Nat) then iI (T.length : Nat) else iI (p : Nat)) = iI (T.length : Nat) := by
          exact min_I (by omega) (by omega)
        rw [e]
        exact sN_truncate hV (by omega) fun d2 h2 => hQ by_ d2 (fun i hi => hb i (by omega)) h2
      · rw [iI_lit 0, iI_eq (by omega) (by omega) (by omega) (by omega)] at c
        omega
  exact ⟨T.length + 1, key T.length 0 by_ d (by omega) (by omega) (by omega) (by omega) (fun i hi => absurd hi (Nat.not_lt_zero _)) hI⟩
end
