/-! THE BUILDER: text T lies in tn places -/
def SBS (T : List Int32) (tn : Nat) (tf : Nat → Int32) (tc : Int32) : Prop := asc T ∧ tc = iI (T.length : Nat) ∧ T.length ≤ tn ∧ tn ≤ 1300 ∧ (∀ i, i < T.length → tf i = T.getD i 0) ∧ ∀ i, i < tn → fits .byte (.int (tf i)) = true
/-- the places when k are asked for -/
def gw (tn k : Nat) : Nat := if k ≤ tn then tn else max (2 * tn + 2) k
def gk (tn k : Nat) : Nat := if k ≤ tn then 0 else 1
def gs (tn k : Nat) : Nat := if k ≤ tn then 0 else gw tn k
theorem le0_I {a : Int} (h1 : -2147483648 ≤ a) (h2 : a < 2147483648) : iI a ≤ 0 ↔ a ≤ 0 := by rw [iI_lit 0]; exact iI_le h1 h2 (by omega) (by omega)
theorem lt0_I {a : Int} (h1 : -2147483648 ≤ a) (h2 : a < 2147483648) : iI a < 0 ↔ a < 0 := by rw [iI_lit 0]; exact iI_lt h1 h2 (by omega) (by omega)
theorem ge0_I {a : Int} (h1 : -2147483648 ≤ a) (h2 : a < 2147483648) : 0 ≤ iI a ↔ 0 ≤ a := by rw [iI_lit 0]; exact iI_le (by omega) (by omega) h1 h2
theorem eq0_I {a : Int} (h1 : -2147483648 ≤ a) (h2 : a < 2147483648) : iI a = 0 ↔ a = 0 := by rw [iI_lit 0]; exact iI_eq h1 h2 (by omega) (by omega)
theorem sh0 : ((0 : Int32) &&& 31) = 0 := by decide
theorem shl0 (x : Int32) : x <<< ((0 : Int32) &&& 31) = x := by
  rw [sh0]
  apply Int32.toBitVec_inj.mp
  show x.toBitVec <<< ((0 : Int32).toBitVec.smod 32) = x.toBitVec
  have e2 : ((0 : Int32).toBitVec.smod 32) = 0#32 := by decide
  rw [e2]
  simp
theorem shr0 (x : Int32) : x >>> ((0 : Int32) &&& 31) = x := by
  rw [sh0]
  apply Int32.toBitVec_inj.mp
  show x.toBitVec.sshiftRight' ((0 : Int32).toBitVec.smod 32) = x.toBitVec
  have e2 : ((0 : Int32).toBitVec.smod 32) = 0#32 := by decide
  rw [e2]
  simp [BitVec.sshiftRight']
theorem fits0 : fits .byte (.int 0) = true := by decide
theorem fits_a {x : Int32} (h : 0 ≤ x.toInt ∧ x.toInt < 128) : fits .byte (.int x) = true := by
  have a : (-128 : Int32) ≤ x := Int32.le_iff_toInt_le.mpr (by rw [show (-128 : Int32).toInt = -128 from by decide]; omega)
  have b : x ≤ (127 : Int32) := Int32.le_iff_toInt_le.mpr (by rw [show (127 : Int32).toInt = 127 from by decide]; omega)
  simp only [fits, a, b, decide_true, Bool.and_true]
theorem asc_get {T : List Int32} (h : asc T) (i : Nat) : 0 ≤ (T.getD i 0).toInt ∧ (T.getD i 0).toInt < 128 := by
  have c := chT_lt h i
  rw [ch_e h i, iI_toInt (by omega) (by omega)]
  omega
theorem asc_app {T S : List Int32} (h : asc T) (h2 : asc S) : asc (T ++ S) := fun x hx => by
  rcases List.mem_append.mp hx with c | c
  · exact h x c
  · exact h2 x c
theorem max_I {a b : Nat} (h1 : a < 600000) (h2 : b < 600000) : (if iI (a : Nat) < iI (b : Nat) then iI (b : Nat) else iI (a : Nat)) = iI ((max a b : Nat) : Int) := by
  split
  · rename_i c
    rw [iI_lt (by omega) (by omega) (by omega) (by omega)] at c
    rw [show max a b = b by omega]
  · rename_i c
    rw [iI_lt (by omega) (by omega) (by omega) (by omega)] at c
    rw [show max a b = a by omega]
theorem min_J {a b : Nat} (h1 : a < 600000) (h2 : b < 600000) : (if iI (a : Nat) < iI (b : Nat) then iI (a : Nat) else iI (b : Nat)) = iI ((min a b : Nat) : Int) := by
  split
  · rename_i c
    rw [iI_lt (by omega) (by omega) (by omega) (by omega)] at c
    rw [show min a b = a by omega]
  · rename_i c
    rw [iI_lt (by omega) (by omega) (by omega) (by omega)] at c
    rw [show min a b = b by omega]
theorem sb_room {T : List Int32} {tp tn : Nat} {tf : Nat → Int32} {tc tl : Int32} (h : SBS T tn tf tc) {k : Nat} (hk : k ≤ 640) {mc ms : Nat} (hc : gk tn k ≤ mc) (hs : gs tn k ≤ ms) {Q : Nat → Nat → (Nat → Int32) → Prop} (hQ : ∀ tp2 tf2, gw tn k ≤ 1300 → SBS T (gw tn k) tf2 tc → Q tp2 (gw tn k) tf2) : wp_J5_ensureCapacityInternal_d00df (iI (k : Nat)) tp tn tf tc tl mc ms Q := by
  obtain ⟨h1, h2, h3, h4, h5, h6⟩ := id h
  unfold wp_J5_ensureCapacityInternal_d00df
  intro v10 hv
  rw [shr0, show Int32.ofNat tn = iI (tn : Nat) from iI_nI _] at hv
  subst hv
  rw [iI_sub, le0_I (by omega) (by omega)]
  refine ⟨fun c => ⟨⟨Nat.zero_le _, Nat.zero_le _⟩, ?_⟩, fun c => ⟨⟨Nat.zero_le _, Nat.zero_le _⟩, ?_⟩⟩
  · have e : gw tn k = tn := if_pos (by omega)
    rw [e] at hQ
    exact hQ tp tf h4 h
  · have e : gw tn k = max (2 * tn + 2) k := if_neg (by omega)
    have ek : gk tn k = 1 := if_neg (by omega)
    have es : gs tn k = gw tn k := if_neg (by omega)
    rw [es, e] at hs
    rw [ek] at hc
    rw [e] at hQ
    unfold wp_J5_newCapacity_0f7a4
    intro v5 hv5 v12 hv12 v16 hv16
    rw [show Int32.ofNat tn = iI (tn : Nat) from iI_nI _] at hv5
    rw [shl0] at hv12
    subst hv5
    subst hv12
    rw [iI_sub, show ((k : Int) - (tn : Int)) = ((k - tn : Nat) : Int) by omega] at hv16
    subst hv16
    rw [shl0]
    unfold wp_J8_newLength_cabcc
    rw [show (iI (tn : Nat) + 2 : Int32) = iI ((tn + 2 : Nat) : Int) from by rw [show (2 : Int32) = iI ((2 : Nat) : Int) from rfl, iI_add]; rfl, max_I (by omega) (by omega)]
    intro v7 hv7
    rw [iI_add, show ((tn : Int) + ((max (k - tn) (tn + 2) : Nat) : Int)) = ((max (2 * tn + 2) k : Nat) : Int) by omega] at hv7
    subst hv7
    generalize hM : max (2 * tn + 2) k = M at hQ hs ⊢
    have hM1 : M ≤ 1300 := by omega
    have hM2 : tn < M := by omega
    rw [le0_I (by omega) (by omega), show (2147483639 : Int32) = iI ((2147483639 : Nat) : Int) from rfl, iI_lt (by omega) (by omega) (by omega) (by omega)]
    refine ⟨fun z => by omega, fun _ => ⟨fun z => by omega, fun _ => ⟨fun _ => ?_, fun z => ?_⟩⟩⟩
    · rw [shr0]
      show ∃ mb32 sb32, (0 + mb32 ≤ mc ∧ 0 + sb32 ≤ ms) ∧ wp_J7_copyOf_9075b (iI (M : Nat) <<< (0 &&& 31)) tn tf mb32 sb32 _
      rw [shl0]
      refine ⟨1, M, ⟨by omega, by omega⟩, ?_⟩
      unfold wp_J7_copyOf_9075b
      rw [show Int32.ofNat tn = iI (tn : Nat) from iI_nI _, iI_clN (by omega), iI_eq (by omega) (by omega) (by omega) (by omega)]
      refine ⟨fun _ => ⟨⟨?_, by omega⟩, ⟨by omega, by omega⟩, fun a15 => ⟨⟨by omega, by omega⟩, ?_, ⟨by omega, by omega⟩, ⟨by omega, by omega⟩, ?_⟩⟩, fun z => by omega⟩
      · rw [lt0_I (by omega) (by omega)]; omega
      · rw [min_J (by omega) (by omega), show min M tn = tn by omega, iI_clN (by omega), show (0 : Int32).toNatClampNeg = 0 from by decide]
        refine ⟨by decide, by decide, ?_, by omega, by omega, fun i hi => ?_⟩
        · rw [lt0_I (by omega) (by omega)]; omega
        · rw [Nat.zero_add]
          exact h6 i hi
      · rw [min_J (by omega) (by omega), show min M tn = tn by omega, iI_clN (by omega), show (0 : Int32).toNatClampNeg = 0 from by decide]
        refine hQ a15 _ hM1 ⟨h1, h2, by omega, hM1, fun i hi => ?_, fun i hi => ?_⟩
        · show (if 0 ≤ i ∧ i < 0 + tn then tf (0 + (i - 0)) else 0) = _
          rw [if_pos (by omega), show 0 + (i - 0) = i by omega]
          exact h5 i hi
        · show fits .byte (.int (if 0 ≤ i ∧ i < 0 + tn then tf (0 + (i - 0)) else 0)) = true
          split
          · rw [show 0 + (i - 0) = i by omega]
            exact h6 i (by omega)
          · exact fits0
    · rw [show (2147483647 : Int32) = iI ((2147483647 : Nat) : Int) from rfl, iI_eq (by omega) (by omega) (by omega) (by omega)] at z
      omega
theorem getD_app {T S : List Int32} {i : Nat} : (T ++ S).getD i 0 = if i < T.length then T.getD i 0 else S.getD (i - T.length) 0 := by
  simp only [List.getD_eq_getElem?_getD]
  split
  · rename_i c; rw [List.getElem?_append_left c]
  · rename_i c; rw [List.getElem?_append_right (by omega)]
/-- a text behind the text -/
theorem SBS_cpy {T S : List Int32} {tn : Nat} {tf : Nat → Int32} {tc : Int32} (h : SBS T tn tf tc) (hS : asc S) (hl : T.length + S.length ≤ tn) : SBS (T ++ S) tn (va_cpy (fun j => S.getD j 0) tf 0 T.length S.length) (iI ((T.length + S.length : Nat) : Int)) := by
  obtain ⟨h1, h2, h3, h4, h5, h6⟩ := h
  refine ⟨asc_app h1 hS, by rw [List.length_append], by rw [List.length_append]; omega, h4, fun i hi => ?_, fun i hi => ?_⟩
  · rw [List.length_append] at hi
    rw [getD_app]
    show (if T.length ≤ i ∧ i < T.length + S.length then S.getD (0 + (i - T.length)) 0 else tf i) = _
    by_cases c : i < T.length
    · rw [if_neg (by omega), if_pos c]; exact h5 i c
    · rw [if_pos (by omega), if_neg c, Nat.zero_add]
  · show fits .byte (.int (if T.length ≤ i ∧ i < T.length + S.length then S.getD (0 + (i - T.length)) 0 else tf i)) = true
    split
    · exact fits_a (asc_get hS _)
    · exact h6 i hi
theorem sb_append {T S : List Int32} {tp tn : Nat} {tf : Nat → Int32} {tc tl : Int32} (h : SBS T tn tf tc) (hS : asc S) (hk : T.length + S.length ≤ 640) {mc ms : Nat} (hc : gk tn (T.length + S.length) ≤ mc) (hs : gs tn (T.length + S.length) ≤ ms) {Q : Nat → Nat → (Nat → Int32) → Int32 → Prop} (hQ : ∀ tp2 tf2, SBS (T ++ S) (gw tn (T.length + S.length)) tf2 (iI ((T.length + S.length : Nat) : Int)) → Q tp2 (gw tn (T.length + S.length)) tf2 (iI ((T.length + S.length : Nat) : Int))) : wp_J4_append_15ec4 S tp tn tf tc tl mc ms Q := by
  obtain ⟨h1, h2, h3, h4, h5, h6⟩ := id h
  unfold wp_J4_append_15ec4 wp_J5_append_cf1ce
  refine ⟨mc, ms, ⟨by omega, by omega⟩, ⟨by omega, by omega⟩, sp_lenT (by omega) ⟨mc, ms, ⟨by omega, by omega⟩, ?_⟩⟩
  rw [h2, iI_add, show ((T.length : Int) + (S.length : Int)) = ((T.length + S.length : Nat) : Int) by omega]
  rw [h2] at h
  refine sb_room h hk hc hs fun tp2 tf2 hg h2 => ⟨⟨by omega, by omega⟩, ?_⟩
  have hge : T.length + S.length ≤ gw tn (T.length + S.length) := by unfold gw; split <;> omega
  unfold wp_J5_putStringAt_47b60 wp_J5_inflateIfNeededFor_a7421 wp_J0_getBytes_840e7
  rw [shl0, show Int32.ofNat S.length = iI (S.length : Nat) from iI_nI _, iI_clN (by omega), iI_clN (by omega), show (0 : Int32).toNatClampNeg = 0 from by decide]
  refine ⟨fun z => absurd rfl z, fun _ => ⟨⟨by decide, ?_, ?_, by omega, hge, fun i hi => ?_⟩, ⟨by omega, by omega⟩, ⟨by omega, by omega⟩, ?_⟩⟩
  · rw [lt0_I (by omega) (by omega)]; omega
  · rw [lt0_I (by omega) (by omega)]; omega
  · exact fits_a (asc_get hS _)
  · exact hQ tp2 _ (SBS_cpy h2 hS hge)
theorem gw_k {tn k a K : Nat} (h : K ≤ a + tn) : K + gk tn k ≤ a + gw tn k := by
  unfold gk gw
  split <;> omega
theorem gw_s {tn k b S : Nat} (h : S ≤ b + 2 * tn) : S + gs tn k ≤ b + 2 * gw tn k := by
  unfold gs gw
  split <;> omega
/-- a text behind the text, with what it costs -/
theorem sb_S {T S : List Int32} {tp tn : Nat} {tf : Nat → Int32} {tc tl : Int32} (h : SBS T tn tf tc) (hS : asc S) (hk : T.length + S.length ≤ 640) {K L : Nat} (a b : Nat) (ha : a ≤ 12) (hb : b ≤ 140) (hK : K ≤ a + tn) (hL : L ≤ b + 2 * tn) {F : Nat → Nat → Nat → Nat → (Nat → Int32) → Int32 → Prop} (hF : ∀ mb sb tp2 tn2 tf2 tc2, SBS (T ++ S) tn2 tf2 tc2 → K + mb ≤ a + tn2 → L + sb ≤ b + 2 * tn2 → K + mb ≤ 3000 ∧ L + sb ≤ 6000 → F mb sb tp2 tn2 tf2 tc2) : ∃ mb sb : Nat, (K + mb ≤ 3000 ∧ L + sb ≤ 6000) ∧ wp_J4_append_15ec4 S tp tn tf tc tl mb sb (F mb sb) := by
  obtain ⟨h1, h2, h3, h4, h5, h6⟩ := id h
  have g1 := gw_k (k := T.length + S.length) hK
  have g2 := gw_s (k := T.length + S.length) hL
  have g3 : gw tn (T.length + S.length) ≤ 1300 := by unfold gw; split <;> omega
  have g4 : K + gk tn (T.length + S.length) ≤ 3000 ∧ L + gs tn (T.length + S.length) ≤ 6000 := ⟨by omega, by omega⟩
  exact ⟨gk tn (T.length + S.length), gs tn (T.length + S.length), g4, sb_append h hS hk (Nat.le_refl _) (Nat.le_refl _) fun tp2 tf2 h2 => hF _ _ _ _ _ _ h2 g1 g2 g4⟩
/-! a number behind the text -/
def dd (v : Nat) : List Int32 := if v < 10 then [iI ((48 + v : Nat) : Int)] else if v < 100 then [iI ((48 + v / 10 : Nat) : Int), iI ((48 + v % 10 : Nat) : Int)] else [iI ((48 + v / 100 : Nat) : Int), iI ((48 + v % 100 / 10 : Nat) : Int), iI ((48 + v % 10 : Nat) : Int)]
def dl (v : Nat) : Nat := if v < 10 then 1 else if v < 100 then 2 else 3
theorem dd_len (v : Nat) : (dd v).length = dl v := by
  unfold dd dl
  split
  · rfl
  · split <;> rfl
theorem asc_dd {v : Nat} (h : v < 1000) : asc (dd v) := by
  have t : ∀ z : Nat, z < 128 → 0 ≤ (iI (z : Nat)).toInt ∧ (iI (z : Nat)).toInt < 128 := fun z hz => by rw [iI_toInt (by omega) (by omega)]; omega
  intro x hx
  unfold dd at hx
  split at hx
  · simp only [List.mem_cons, List.not_mem_nil, or_false] at hx
    subst hx
    exact t _ (by omega)
  · split at hx
    · simp only [List.mem_cons, List.not_mem_nil, or_false] at hx
      rcases hx with e | e <;> subst e <;> exact t _ (by omega)
    · simp only [List.mem_cons, List.not_mem_nil, or_false] at hx
      rcases hx with e | e | e <;> subst e <;> exact t _ (by omega)
theorem sb_size {v : Nat} (h : v < 1000) {Q : Int32 → Prop} (hQ : Q (iI (dl v : Nat))) : wp_J6_stringSize_0f7a4 (iI (v : Nat)) Q := by
  have e10 : (-10 : Int32) = iI (-10) := by decide +kernel
  have e100 : (10 : Int32) * iI (-10) = iI (-100) := by decide +kernel
  have e1000 : (10 : Int32) * iI (-100) = iI (-1000) := by decide +kernel
  unfold wp_J6_stringSize_0f7a4
  rw [lt0_I (by omega) (by omega)]
  refine ⟨fun z => by omega, fun _ v10 hv => ⟨4, ?_⟩⟩
  have hv2 : v10 = iI (-(v : Int)) := by rw [hv]; exact (Int32.ofInt_neg _).symm
  subst hv2
  unfold dl at hQ
  rw [e10]
  unfold wp_J6_stringSize_0f7a4_L16
  refine ⟨fun z => absurd z (by decide), fun _ => ⟨fun c v35 h35 => ?_, fun c => ?_⟩⟩
  · rw [iI_le (by omega) (by omega) (by omega) (by omega)] at c
    rw [e100] at h35
    subst h35
    rw [if_neg (by omega)] at hQ
    unfold wp_J6_stringSize_0f7a4_L16
    refine ⟨fun z => absurd z (by decide), fun _ => ⟨fun c v35 h35 => ?_, fun c => ?_⟩⟩
    · rw [iI_le (by omega) (by omega) (by omega) (by omega)] at c
      rw [e1000] at h35
      subst h35
      rw [if_neg (by omega)] at hQ
      unfold wp_J6_stringSize_0f7a4_L16
      refine ⟨fun z => absurd z (by decide), fun _ => ⟨fun c v35 h35 => ?_, fun c => ?_⟩⟩
      · rw [iI_le (by omega) (by omega) (by omega) (by omega)] at c
        omega
      · exact hQ
    · rw [iI_le (by omega) (by omega) (by omega) (by omega)] at c
      rw [if_pos (by omega)] at hQ
      exact hQ
  · rw [iI_le (by omega) (by omega) (by omega) (by omega)] at c
    rw [if_pos (by omega)] at hQ
    exact hQ
theorem dg_O : ∀ j : Nat, j < 100 → vp_nar .byte (dgO j) = iI ((48 + j % 10 : Nat) : Int) := by decide +kernel
theorem dg_T : ∀ j : Nat, j < 100 → vp_nar .byte (dgT j) = iI ((48 + j / 10 : Nat) : Int) := by decide +kernel
theorem neg_div100 : ∀ v : Nat, v < 1000 → iI (-(v : Int)) / 100 = iI (-((v / 100 : Nat) : Int)) := by decide +kernel
theorem sb_getChars {v : Nat} (h : v < 1000) {p tn : Nat} (hp : dl v ≤ p) (hp2 : p ≤ tn) (hp3 : tn < 600000) {f : Nat → Int32} {Q : Int32 → (Nat → Int32) → Prop} (hQ : ∀ r g, (∀ i, g i = if p - dl v ≤ i ∧ i < p then (dd v).getD (i - (p - dl v)) 0 else f i) → Q r g) : wp_J6_getChars_ba4f3 (iI (v : Nat)) (iI (p : Nat)) tn f Q := by
  have m1 : ∀ z : Nat, 0 < z → z < 600000 → iI (z : Nat) + (-1) = iI ((z - 1 : Nat) : Int) := fun z h1 h2 => by
    rw [iI_m1, iI_add, show ((z : Int) + -1) = ((z - 1 : Nat) : Int) by omega]
  have m2 : ∀ z : Nat, 1 < z → z < 600000 → iI (z : Nat) + (-1) + (-1) = iI ((z - 2 : Nat) : Int) := fun z h1 h2 => by
    rw [m1 z (by omega) h2, m1 (z - 1) (by omega) (by omega), show z - 1 - 1 = z - 2 by omega]
  have ng : ∀ z : Nat, -(iI (-(z : Int))) = iI (z : Nat) := fun z => by
    rw [show -(iI (-(z : Int))) = iI (-(-(z : Int))) from (Int32.ofInt_neg _).symm, Int.neg_neg]
  have e100 : (-100 : Int32) = iI (-100) := by decide +kernel
  have e9 : (-9 : Int32) = iI (-9) := by decide +kernel
  unfold wp_J6_getChars_ba4f3
  rw [ge0_I (by omega) (by omega)]
  refine ⟨fun _ v21 hv => ⟨2, ?_⟩, fun z => by omega⟩
  have hv2 : v21 = iI (-(v : Int)) := by rw [hv]; exact (Int32.ofInt_neg _).symm
  subst hv2
  unfold wp_J6_getChars_ba4f3_L22
  rw [e100, e9, iI_lt (by omega) (by omega) (by omega) (by omega)]
  have fin : ∀ (z q : Nat) (g : Nat → Int32), z < 100 → dl z ≤ q → q ≤ tn → (∀ r g2, (∀ i, g2 i = if q - dl z ≤ i ∧ i < q then (dd z).getD (i - (q - dl z)) 0 else g i) → Q r g2) → vp_in (-(iI (-(z : Int)))) 100 ∧ (vp_in (iI (q : Nat) + (-1)) tn ∧ ((iI (-9) ≤ iI (-(z : Int)) → (Q (iI (q : Nat) + (-1)) (upd g (iI (q : Nat) + (-1)).toNatClampNeg (vp_nar .byte (dgO (-(iI (-(z : Int)))).toNatClampNeg))))) ∧ (¬ iI (-9) ≤ iI (-(z : Int)) → (vp_in (-(iI (-(z : Int)))) 100 ∧ (vp_in (iI (q : Nat) + (-1) + (-1)) tn ∧ (Q (iI (q : Nat) + (-1) + (-1)) (upd (upd g (iI (q : Nat) + (-1)).toNatClampNeg (vp_nar .byte (dgO (-(iI (-(z : Int)))).toNatClampNeg))) (iI (q : Nat) + (-1) + (-1)).toNatClampNeg (vp_nar .byte (dgT (-(iI (-(z : Int)))).toNatClampNeg))))))))) := by
    intro z q g hz hq1 hq2 hA
    have q1 : 0 < q := by unfold dl at hq1; split at hq1 <;> (try split at hq1) <;> omega
    rw [ng, m1 q q1 (by omega), iI_le (by omega) (by omega) (by omega) (by omega), iI_clN (by omega), iI_clN (by omega), dg_O z hz, dg_T z hz]
    refine ⟨in_lit (by omega) (by omega), in_lit (by omega) (by omega), fun c => ?_, fun c => ⟨in_lit (by omega) (by omega), ?_⟩⟩
    · have ed : dl z = 1 := if_pos (by omega)
      have ee : dd z = [iI ((48 + z : Nat) : Int)] := if_pos (by omega)
      refine hA _ _ fun i => ?_
      rw [ed, ee]
      by_cases e : i = q - 1
      · rw [e, pk_us, if_pos (by omega), show q - 1 - (q - 1) = 0 by omega, show z % 10 = z by omega]
        rfl
      · rw [pk_un e, if_neg (by omega)]
    · have ed : dl z = 2 := by unfold dl; rw [if_neg (by omega), if_pos (by omega)]
      have ee : dd z = [iI ((48 + z / 10 : Nat) : Int), iI ((48 + z % 10 : Nat) : Int)] := by unfold dd; rw [if_neg (by omega), if_pos (by omega)]
      rw [ed] at hq1
      rw [m1 (q - 1) (by omega) (by omega), iI_clN (by omega)]
      refine ⟨in_lit (by omega) (by omega), hA _ _ fun i => ?_⟩
      rw [ed, ee]
      by_cases e : i = q - 1 - 1
      · rw [e, pk_us, if_pos (by omega), show q - 1 - 1 - (q - 2) = 0 by omega]
        rfl
      · rw [pk_un e]
        by_cases e2 : i = q - 1
        · rw [e2, pk_us, if_pos (by omega), show q - 1 - (q - 2) = 1 by omega]
          rfl
        · rw [pk_un e2, if_neg (by omega)]
  refine ⟨fun c => fin v p f (by omega) hp hp2 hQ, fun c v32 h32 v39 h39 => ?_⟩
  have ed : dl v = 3 := by unfold dl; rw [if_neg (by omega), if_neg (by omega)]
  have ee : dd v = [iI ((48 + v / 100 : Nat) : Int), iI ((48 + v % 100 / 10 : Nat) : Int), iI ((48 + v % 10 : Nat) : Int)] := by unfold dd; rw [if_neg (by omega), if_neg (by omega)]
  rw [neg_div100 v h] at h32
  subst h32
  rw [show (100 : Int32) = iI 100 from rfl, iI_mul, iI_sub, show (-((v / 100 : Nat) : Int) * 100 - -(v : Int)) = ((v % 100 : Nat) : Int) by omega] at h39
  subst h39
  rw [ed] at hp
  rw [m1 p (by omega) (by omega), m1 (p - 1) (by omega) (by omega), iI_clN (by omega), iI_clN (by omega), iI_clN (by omega), dg_O _ (by omega), dg_T _ (by omega), show p - 1 - 1 = p - 2 by omega]
  refine ⟨in_lit (by omega) (by omega), in_lit (by omega) (by omega), in_lit (by omega) (by omega), in_lit (by omega) (by omega), ?_⟩
  unfold wp_J6_getChars_ba4f3_L22
  rw [e100, iI_lt (by omega) (by omega) (by omega) (by omega)]
  refine ⟨fun _ => fin (v / 100) (p - 2) _ (by omega) (by unfold dl; rw [if_pos (by omega)]; omega) (by omega) fun r g2 hg => hQ r g2 fun i => ?_, fun z => by omega⟩
  have e1 : dl (v / 100) = 1 := if_pos (by omega)
  have e2 : dd (v / 100) = [iI ((48 + v / 100 : Nat) : Int)] := if_pos (by omega)
  rw [hg i, e1, e2, ed, ee]
  by_cases a : i = p - 3
  · subst a
    rw [if_pos (by omega), if_pos (by omega), show p - 3 - (p - 2 - 1) = 0 by omega, show p - 3 - (p - 3) = 0 by omega]
    rfl
  · rw [if_neg (by omega)]
    by_cases b : i = p - 2
    · subst b
      rw [pk_us, if_pos (by omega), show p - 2 - (p - 3) = 1 by omega]
      rfl
    · rw [pk_un b]
      by_cases c : i = p - 1
      · subst c
        rw [pk_us, if_pos (by omega), show p - 1 - (p - 3) = 2 by omega, show v % 100 % 10 = v % 10 by omega]
        rfl
      · rw [pk_un c, if_neg (by omega)]
theorem sb_appendI {T : List Int32} {v : Nat} (hv : v < 1000) {tp tn : Nat} {tf : Nat → Int32} {tc tl : Int32} (h : SBS T tn tf tc) (hk : T.length + dl v ≤ 640) {mc ms : Nat} (hc : gk tn (T.length + dl v) ≤ mc) (hs : gs tn (T.length + dl v) ≤ ms) {Q : Nat → Nat → (Nat → Int32) → Int32 → Prop} (hQ : ∀ tp2 tf2, SBS (T ++ dd v) (gw tn (T.length + dl v)) tf2 (iI ((T.length + dl v : Nat) : Int)) → Q tp2 (gw tn (T.length + dl v)) tf2 (iI ((T.length + dl v : Nat) : Int))) : wp_J4_append_bf812 (iI (v : Nat)) tp tn tf tc tl mc ms Q := by
  obtain ⟨h1, h2, h3, h4, h5, h6⟩ := id h
  unfold wp_J4_append_bf812 wp_J5_append_c97b9
  refine ⟨mc, ms, ⟨by omega, by omega⟩, ⟨by omega, by omega⟩, sb_size hv fun v11 h11 => ⟨mc, ms, ⟨by omega, by omega⟩, ?_⟩⟩
  rw [h2, iI_add, show ((T.length : Int) + (dl v : Int)) = ((T.length + dl v : Nat) : Int) by omega] at h11
  subst h11
  refine sb_room h hk hc hs fun tp2 tf2 hg hS => ⟨⟨by omega, by omega⟩, ?_⟩
  have hge : T.length + dl v ≤ gw tn (T.length + dl v) := by unfold gw; split <;> omega
  unfold wp_J5_isLatin1_aae02
  refine ⟨fun z => absurd z (by decide), fun _ => ⟨⟨by omega, by omega⟩, sb_getChars hv (by omega) hge (by omega) fun r g hgg => ⟨⟨by omega, by omega⟩, ⟨by omega, by omega⟩, hQ tp2 g ?_⟩⟩⟩
  have := SBS_cpy hS (asc_dd hv) (by rw [dd_len]; exact hge)
  rw [dd_len] at this
  have e : g = va_cpy (fun j => (dd v).getD j 0) tf2 0 T.length (dl v) := by
    funext i
    rw [hgg i, show T.length + dl v - dl v = T.length by omega]
    show _ = (if T.length ≤ i ∧ i < T.length + dl v then (dd v).getD (0 + (i - T.length)) 0 else tf2 i)
    rw [Nat.zero_add]
  rw [e]
  exact this
theorem dl_le (v : Nat) : dl v ≤ 3 := by unfold dl; split <;> (try split) <;> omega
/-- a number behind the text, with what it costs -/
theorem sb_I {T : List Int32} {v : Nat} (hv : v < 1000) {tp tn : Nat} {tf : Nat → Int32} {tc tl : Int32} (h : SBS T tn tf tc) (hk : T.length + 3 ≤ 640) {K L : Nat} (a b : Nat) (ha : a ≤ 12) (hb : b ≤ 140) (hK : K ≤ a + tn) (hL : L ≤ b + 2 * tn) {F : Nat → Nat → Nat → Nat → (Nat → Int32) → Int32 → Prop} (hF : ∀ mb sb tp2 tn2 tf2 tc2, SBS (T ++ dd v) tn2 tf2 tc2 → K + mb ≤ a + tn2 → L + sb ≤ b + 2 * tn2 → K + mb ≤ 3000 ∧ L + sb ≤ 6000 → F mb sb tp2 tn2 tf2 tc2) : ∃ mb sb : Nat, (K + mb ≤ 3000 ∧ L + sb ≤ 6000) ∧ wp_J4_append_bf812 (iI (v : Nat)) tp tn tf tc tl mb sb (F mb sb) := by
  obtain ⟨h1, h2, h3, h4, h5, h6⟩ := id h
  have hd := dl_le v
  have g1 := gw_k (k := T.length + dl v) hK
  have g2 := gw_s (k := T.length + dl v) hL
  have g3 : gw tn (T.length + dl v) ≤ 1300 := by unfold gw; split <;> omega
  have g4 : K + gk tn (T.length + dl v) ≤ 3000 ∧ L + gs tn (T.length + dl v) ≤ 6000 := ⟨by omega, by omega⟩
  exact ⟨gk tn (T.length + dl v), gs tn (T.length + dl v), g4, sb_appendI hv h (by omega) (Nat.le_refl _) (Nat.le_refl _) fun tp2 tf2 h2 => hF _ _ _ _ _ _ h2 g1 g2 g4⟩
/-! a new builder; its text as a string -/
theorem sb_init {S : List Int32} (hS : asc S) (hl : S.length ≤ 30) {mc ms : Nat} (hc : 1 ≤ mc) (hs : S.length + 16 ≤ ms) {Q : Nat → Nat → (Nat → Int32) → Int32 → Int32 → Prop} (hQ : ∀ tp2 tf2, SBS S (S.length + 16) tf2 (iI (S.length : Nat)) → Q tp2 (S.length + 16) tf2 (iI (S.length : Nat)) 0) : wp_J4_init_a7421 S mc ms Q := by
  unfold wp_J4_init_a7421 wp_J5_init_a7421
  refine ⟨mc, ms, ⟨by omega, by omega⟩, ⟨by omega, by omega⟩, sp_lenT (by omega) ?_⟩
  rw [show (2147483631 : Int32) = iI ((2147483631 : Nat) : Int) from rfl, iI_le (by omega) (by omega) (by omega) (by omega)]
  refine ⟨fun z => by omega, fun _ v24 h24 => ⟨⟨by omega, by omega⟩, ?_⟩⟩
  rw [show (16 : Int32) = iI ((16 : Nat) : Int) from rfl, iI_add, show ((S.length : Int) + ((16 : Nat) : Int)) = ((S.length + 16 : Nat) : Int) by omega] at h24
  subst h24
  rw [iI_clN (by omega), lt0_I (by omega) (by omega)]
  refine ⟨⟨by omega, by omega⟩, ⟨by omega, by omega⟩, fun a44 => ⟨0, 0, ⟨by omega, by omega⟩, ?_⟩⟩
  unfold wp_J4_append_cf1ce
  have h0 : SBS [] (S.length + 16) (fun _ => 0) 0 := ⟨fun x hx => absurd hx (by simp), rfl, by simp, by omega, fun i hi => absurd hi (by simp), fun i hi => fits0⟩
  have eg : gw (S.length + 16) (0 + S.length) = S.length + 16 := if_pos (by omega)
  have e1 : gk (S.length + 16) (0 + S.length) = 0 := if_pos (by omega)
  have e2 : gs (S.length + 16) (0 + S.length) = 0 := if_pos (by omega)
  refine ⟨0, 0, ⟨by omega, by omega⟩, sb_append h0 hS (by simp only [List.length_nil]; omega) (by simp only [List.length_nil]; omega) (by simp only [List.length_nil]; omega) fun tp2 tf2 h2 => ?_⟩
  simp only [List.length_nil, List.nil_append] at h2 ⊢
  rw [eg, show 0 + S.length = S.length by omega] at h2
  rw [eg, show 0 + S.length = S.length by omega]
  exact ⟨⟨by omega, by omega⟩, ⟨by omega, by omega⟩, ⟨by omega, by omega⟩, hQ tp2 tf2 h2⟩
theorem sb_str {T : List Int32} {tp tn : Nat} {tf : Nat → Int32} {tc tl : Int32} (h : SBS T tn tf tc) {mc ms : Nat} (hc : 2 ≤ mc) (hs : 4 + T.length ≤ ms) {Q : Nat → Nat → Nat → (Nat → Int32) → Prop} (hQ : ∀ a b f, (∀ i, i < T.length → f i = T.getD i 0) → Q a b T.length f) : wp_J4_toString_0e30d tp tn tf tc tl mc ms Q := by
  obtain ⟨h1, h2, h3, h4, h5, h6⟩ := id h
  unfold wp_J4_toString_0e30d wp_J0_init_81219 wp_J0_init_db425 wp_J5_getValue_6d5f1 wp_J4_length_8abf5 wp_J5_length_8abf5 wp_J5_isLatin1_aae02
  refine ⟨⟨by omega, by omega⟩, fun a0 => ⟨1, T.length, ⟨by omega, by omega⟩, 1, T.length, ⟨by omega, by omega⟩, ⟨by omega, by omega⟩, ⟨by omega, by omega⟩, ⟨by omega, by omega⟩, fun z => absurd z (by decide), fun _ => ⟨1, T.length, ⟨by omega, by omega⟩, ?_⟩⟩⟩
  unfold wp_J7_copyOfRange_39247
  refine ⟨fun z => absurd rfl z, fun _ => ?_⟩
  rw [h2, show Int32.ofNat tn = iI (tn : Nat) from iI_nI _, iI_eq (by omega) (by omega) (by omega) (by omega)]
  refine ⟨fun c => ⟨⟨by omega, by omega⟩, h6, fun a18 => ⟨⟨by omega, by omega⟩, ⟨by omega, by omega⟩, ⟨by omega, by omega⟩, ⟨by omega, by omega⟩, ?_⟩⟩, fun c => ⟨1, T.length, ⟨by omega, by omega⟩, ?_⟩⟩
  · have e : tn = T.length := by omega
    subst e
    exact hQ a0 a18 tf h5
  · unfold wp_J7_copyOfRangeByte_39247 wp_J7_checkLength_df160
    refine ⟨⟨by omega, by omega⟩, fun _ v8 h8 => ?_, fun z => absurd (by rw [iI_lit 0, iI_le (by omega) (by omega) (by omega) (by omega)]; omega) z⟩
    rw [iI_lit 0, iI_sub, show ((T.length : Int) - ((0 : Nat) : Int)) = (T.length : Int) by omega] at h8
    subst h8
    have e1 : Int32.ofNat tn - 0 = iI (tn : Nat) := by rw [show Int32.ofNat tn = iI (tn : Nat) from iI_nI _]; exact Int32.sub_zero _
    rw [e1, min_J (by omega) (by omega), show min T.length tn = T.length by omega, iI_clN (by omega), show (0 : Int32).toNatClampNeg = 0 from by decide]
    have nl : ¬ iI (T.length : Nat) < 0 := by rw [lt0_I (by omega) (by omega)]; omega
    refine ⟨⟨nl, by omega⟩, ⟨by omega, by omega⟩, fun a10 => ⟨⟨by omega, by omega⟩, ⟨by decide, by decide, nl, by omega, by omega, fun i hi => ?_⟩, ⟨by omega, by omega⟩, ⟨by omega, by omega⟩, ⟨by omega, by omega⟩, ⟨by omega, by omega⟩, ⟨by omega, by omega⟩, hQ a0 a10 _ fun i hi => ?_⟩⟩
    · rw [Nat.zero_add]; exact h6 i (by omega)
    · show (if 0 ≤ i ∧ i < 0 + T.length then tf (0 + (i - 0)) else 0) = _
      rw [if_pos (by omega), show 0 + (i - 0) = i by omega]
      exact h5 i hi
theorem range_map {T : List Int32} {f : Nat → Int32} (h : ∀ i, i < T.length → f i = T.getD i 0) : (List.range T.length).map f = T := by
  apply List.ext_getElem
  · simp
  · intro i h1 h2
    simp only [List.getElem_map, List.getElem_range]
    rw [h i h2]
    simp [List.getD, h2]
