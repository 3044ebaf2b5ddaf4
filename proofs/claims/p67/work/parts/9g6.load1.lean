/-! THE LAW LOADS: must and never -/
section
variable {sn : Nat} {sx : Nat → Int32} {high : Nat} {Q : Int32 → DT → Prop} {st s0 : Nat → Nat} {by_ : Nat → Int} {cc pp : Int} {d : DT} {ta na : Nat → Int32} {T : List Int32} {c l m : Nat} {tp tn : Nat} {tf : Nat → Int32} {tc tl : Int32} {br nd : Nat}
abbrev OKQ (Q : Int32 → DT → Prop) : Prop := ∀ (st : Nat → Nat) (by2 : Nat → Int) (d2 : DT), st 0 ≤ 7 → IV st 0 by2 0 (-1) d2 → Q 1 d2
theorem LK_su {k v : Nat} (h : LK sn sx high st ta na br nd) (hk : k = 3 ∨ k = 4) : LK sn sx high (su st k v) ta na br nd := by
  obtain ⟨h7, hL, hb, hbr, hnd⟩ := h
  have e0 : su st k v 0 = st 0 := su_ne (by omega)
  refine ⟨by rw [e0]; exact h7, LI_su hL (by omega) (by omega), fun i hi => ?_, ?_, ?_⟩
  · rw [e0] at hi
    rw [su_ne (by omega), su_ne (by omega)]
    exact hb i hi
  · rw [e0, pcs_ne (fun k _ => by omega)]; exact hbr
  · rw [e0, pcs_ne (fun k _ => by omega)]; exact hnd
theorem tb_0 (a : Nat) : tb 0 a true = 2 ^ a := by unfold tb; simp
theorem LT_w (h : LT T c l st m) : WF st := by obtain ⟨_, _, X, k, _, _, _, w, _, _⟩ := h; exact w
theorem LT_on {w a : Nat} {W : List Int32} (hw : w = 3 ∨ w = 4) (h : LT T c l st m) (ha : a < st 0) (hP : Ps W st (su st w (tb (st w) a true)) 1) : LT (T ++ W) c l (su st w (tb (st w) a true)) (m + 1) := by
  have hW := LT_w h
  refine LT_app h hP ?_ (su_ne (by omega)) (su_ne (by omega))
  rcases hw with e | e <;> subst e
  · exact WF_c hW (Or.inr (Or.inr (Or.inl ⟨rfl, tb_lt hW.2.2.2.1 ha⟩)))
  · exact WF_c hW (Or.inr (Or.inr (Or.inr (Or.inl ⟨rfl, tb_lt hW.2.2.2.2.1 ha⟩))))
theorem sL_463 (hsn : sn < 2147483648) (h1 : 8 ≤ high) (h2 : high ≤ 100) (hI : IV s0 0 by_ cc pp d) (hK : LK sn sx high st ta na br nd) (hT : LT T c l st m) (hm : m ≤ 500) (hl : T.length ≤ 500) (hS : SBS T tn tf tc) {x y : Int} (hx : mn x (st 3)) (h4 : st 4 = 0) (hy : y = -1 ∨ ∃ a : Nat, y = (a : Int) ∧ a < st 0) (hQ : OKQ Q) : wp_L_load_b463 sn sx Q (iI (st 0 : Nat)) (iI (high : Nat)) (iI (br : Nat)) (iI (nd : Nat)) (iI x) (iI y) d tp tn tf tc tl ta na := by
  have h7 := hK.1
  unfold wp_L_load_b463
  rcases hy with e | ⟨a, e, ha⟩
  · subst e
    refine ⟨fun _ => ⟨⟨Nat.le_refl _, Nat.le_refl _⟩, ?_⟩, fun z => absurd (by decide) z⟩
    exact sL_486 hsn h1 h2 hI hK hT (by omega) (by omega) hS hx (Or.inl ⟨rfl, h4⟩) (fun by2 d2 h => hQ st by2 d2 h7 h)
  · subst e
    rw [lt0_I (by omega) (by omega)]
    refine ⟨fun z => by omega, fun _ => ?_⟩
    refine sb_S (S := lV1) hS (asc_of (by decide)) (by simp only [List.length_cons, List.length_nil]; omega) 12 140 (by omega) (by omega) (Nat.le_refl _) (Nat.le_refl _) fun mb sb tp2 tn2 tf2 tc2 hS2 k1 k2 k3 => ?_
    refine sb_I (v := a) (by omega) hS2 (by simp only [List.length_append, List.length_cons, List.length_nil]; omega) 12 140 (by omega) (by omega) k1 k2 fun mb sb tp3 tn3 tf3 tc3 hS3 k1 k2 k3 => ?_
    have hd := dl_le a
    refine sb_S (S := lSe) hS3 (asc_of (by decide)) (by simp only [List.length_append, List.length_cons, List.length_nil, dd_len]; omega) 12 140 (by omega) (by omega) k1 k2 fun mb sb tp4 tn4 tf4 tc4 hS4 k1 k2 k3 => ⟨⟨k1, k2⟩, ?_⟩
    have hP := Ps_nev (s := st) (a := a) (by omega) ha (by rw [h4]; exact Nat.zero_testBit a)
    have hT2 := LT_on (Or.inr rfl) hT ha hP
    have e0 : su st 4 (tb (st 4) a true) 0 = st 0 := su_ne (by omega)
    have := sL_486 (T := T ++ (lV1 ++ (dd a ++ lSe))) (tp := tp4) (tn := tn4) (tf := tf4) (tc := tc4) (tl := tl) (x := x) (y := (a : Int)) (Q := Q) hsn h1 h2 hI (LK_su (k := 4) (v := tb (st 4) a true) hK (Or.inr rfl)) hT2 (by omega) (by simp only [List.length_append, List.length_cons, List.length_nil, dd_len]; omega) (by rw [List.append_assoc, List.append_assoc] at hS4; exact hS4) (by rw [su_ne (by omega)]; exact hx) (Or.inr ⟨a, rfl, by omega, by rw [su_eq, h4, tb_0]⟩) (fun by2 d2 h => hQ _ by2 d2 (by omega) h)
    rw [e0] at this
    exact this
theorem sL_438 (hsn : sn < 2147483648) (h1 : 8 ≤ high) (h2 : high ≤ 100) (hI : IV s0 0 by_ cc pp d) (hK : LK sn sx high st ta na br nd) (hT : LT T c l st m) (hm : m ≤ 400) (hl : T.length ≤ 400) (hS : SBS T tn tf tc) {x y : Int} (h3 : st 3 = 0) (h4 : st 4 = 0) (hx : x = -1 ∨ ∃ a : Nat, x = (a : Int) ∧ a < st 0) (hy : y = -1 ∨ ∃ a : Nat, y = (a : Int) ∧ a < st 0) (hQ : OKQ Q) : wp_L_load_b438 sn sx Q (iI (st 0 : Nat)) (iI (high : Nat)) (iI (br : Nat)) (iI (nd : Nat)) (iI x) (iI y) d tp tn tf tc tl ta na := by
  have h7 := hK.1
  unfold wp_L_load_b438
  rcases hx with e | ⟨a, e, ha⟩
  · subst e
    refine ⟨fun _ => ⟨⟨Nat.le_refl _, Nat.le_refl _⟩, ?_⟩, fun z => absurd (by decide) z⟩
    exact sL_463 hsn h1 h2 hI hK hT (by omega) (by omega) hS (Or.inl ⟨rfl, h3⟩) h4 hy hQ
  · subst e
    rw [lt0_I (by omega) (by omega)]
    refine ⟨fun z => by omega, fun _ => ?_⟩
    refine sb_S (S := lM1) hS (asc_of (by decide)) (by simp only [List.length_cons, List.length_nil]; omega) 12 140 (by omega) (by omega) (Nat.le_refl _) (Nat.le_refl _) fun mb sb tp2 tn2 tf2 tc2 hS2 k1 k2 k3 => ?_
    refine sb_I (v := a) (by omega) hS2 (by simp only [List.length_append, List.length_cons, List.length_nil]; omega) 12 140 (by omega) (by omega) k1 k2 fun mb sb tp3 tn3 tf3 tc3 hS3 k1 k2 k3 => ?_
    have hd := dl_le a
    refine sb_S (S := lSe) hS3 (asc_of (by decide)) (by simp only [List.length_append, List.length_cons, List.length_nil, dd_len]; omega) 12 140 (by omega) (by omega) k1 k2 fun mb sb tp4 tn4 tf4 tc4 hS4 k1 k2 k3 => ⟨⟨k1, k2⟩, ?_⟩
    have hP := Ps_must (s := st) (a := a) (by omega) ha (by rw [h3]; exact Nat.zero_testBit a)
    have hT2 := LT_on (Or.inl rfl) hT ha hP
    have e0 : su st 3 (tb (st 3) a true) 0 = st 0 := su_ne (by omega)
    have := sL_463 (T := T ++ (lM1 ++ (dd a ++ lSe))) (tp := tp4) (tn := tn4) (tf := tf4) (tc := tc4) (tl := tl) (x := (a : Int)) (y := y) (Q := Q) hsn h1 h2 hI (LK_su (k := 3) (v := tb (st 3) a true) hK (Or.inl rfl)) hT2 (by omega) (by simp only [List.length_append, List.length_cons, List.length_nil, dd_len]; omega) (by rw [List.append_assoc, List.append_assoc] at hS4; exact hS4) (Or.inr ⟨a, rfl, by omega, by rw [su_eq, h3, tb_0]⟩) (by rw [su_ne (by omega)]; exact h4) (by rw [e0]; exact hy) hQ
    rw [e0] at this
    exact this
theorem sL_411 (hsn : sn < 2147483648) (h1 : 8 ≤ high) (h2 : high ≤ 100) (hI : IV s0 0 by_ cc pp d) (hK : LK sn sx high st ta na br nd) (hT : LT T c l st m) (hm : m ≤ 400) (hl : T.length ≤ 400) (hS : SBS T tn tf tc) {x : Int} (h3 : st 3 = 0) (h4 : st 4 = 0) (hx : x = -1 ∨ ∃ a : Nat, x = (a : Int) ∧ a < st 0) (hQ : OKQ Q) : wp_L_load_b411 sn sx Q (iI (st 0 : Nat)) (iI (high : Nat)) (iI (br : Nat)) (iI (nd : Nat)) (iI x) d tp tn tf tc tl ta na := by
  have h7 := hK.1
  have ht := hS.2.2.2.1
  have b37 : wp_L_load_b437 sn sx Q (iI (st 0 : Nat)) (iI (high : Nat)) (iI (br : Nat)) (iI (nd : Nat)) (iI x) d tp tn tf tc tl ta na := by
    unfold wp_L_load_b437
    rw [iI_m1]
    exact ⟨⟨Nat.le_refl _, Nat.le_refl _⟩, sL_438 hsn h1 h2 hI hK hT hm hl hS h3 h4 hx (Or.inl rfl) hQ⟩
  unfold wp_L_load_b411
  rw [le0_I (by omega) (by omega)]
  refine ⟨fun _ => ⟨⟨Nat.le_refl _, Nat.le_refl _⟩, b37⟩, fun z => ⟨⟨by omega, by omega⟩, sL_draw (k := 8) (n := 5) hsn (by omega) (by omega) (by omega) ⟨fun _ => ⟨⟨Nat.le_refl _, Nat.le_refl _⟩, b37⟩, fun _ => ⟨⟨by omega, by omega⟩, sL_draw (k := 9) hsn (by omega) (by omega) (by omega) ⟨⟨Nat.le_refl _, Nat.le_refl _⟩, ?_⟩⟩⟩⟩⟩
  exact sL_438 hsn h1 h2 hI hK hT hm hl hS h3 h4 hx (Or.inr ⟨_, rfl, drw_lt (by omega)⟩) hQ
theorem sL_410 (hsn : sn < 2147483648) (h1 : 8 ≤ high) (h2 : high ≤ 100) (hI : IV s0 0 by_ cc pp d) (hK : LK sn sx high st ta na br nd) (hT : LT T c l st m) (hm : m ≤ 400) (hl : T.length ≤ 400) (hS : SBS T tn tf tc) (h3 : st 3 = 0) (h4 : st 4 = 0) (hQ : OKQ Q) : wp_L_load_b410 sn sx Q (iI (st 0 : Nat)) (iI (high : Nat)) (iI (br : Nat)) (iI (nd : Nat)) d tp tn tf tc tl ta na := by
  unfold wp_L_load_b410
  rw [iI_m1]
  exact ⟨⟨Nat.le_refl _, Nat.le_refl _⟩, sL_411 hsn h1 h2 hI hK hT hm hl hS h3 h4 (Or.inl rfl) hQ⟩
/-! bars and needs -/
/-- bars go both ways -/
def SY (st : Nat → Nat) : Prop := ∀ i j, i < st 0 → j < st 0 → (st (6 + 5 * i + 3)).testBit j = (st (6 + 5 * j + 3)).testBit i
theorem row_lt (hW : WF st) {i w : Nat} (hi : i < st 0) (hw : w = 3 ∨ w = 4) : st (6 + 5 * i + w) < 2 ^ st 0 := by
  rcases hw with e | e <;> subst e
  · exact (hW.2.2.2.2.2.2 i hi).2.2.2.1
  · exact (hW.2.2.2.2.2.2 i hi).2.2.2.2
theorem WF_r (hW : WF st) {i w j : Nat} (hi : i < st 0) (hj : j < st 0) (hw : w = 3 ∨ w = 4) : WF (su st (6 + 5 * i + w) (tb (st (6 + 5 * i + w)) j true)) :=
  WF_row hW (Or.inr ⟨by omega, by omega, tb_lt (row_lt hW hi hw) hj⟩)
theorem tb_t (v j : Nat) : tb v j true = v ||| 2 ^ j := rfl
theorem pcn_tb {v j : Nat} (hb : v.testBit j = false) (hj : j < 12) : pcn (tb v j true) 12 = pcn v 12 + 1 := by
  rw [tb_t, pcn_or hb, if_pos hj]
theorem or_sh {v j : Nat} (hj : j < 31) : iI (v : Nat) ||| ((1 : Int32) <<< (iI (j : Nat) &&& 31)) = iI (tb v j true : Nat) := by
  rw [iI_shl1 j hj, iI_or, tb_t]
theorem LK_need (hK : LK sn sx high st ta na br nd) {a b : Nat} (ha : a < st 0) (hb : b < st 0) (hbit : (st (6 + 5 * a + 4)).testBit b = false) : LK sn sx high (su st (6 + 5 * a + 4) (tb (st (6 + 5 * a + 4)) b true)) ta (upd na a (na a ||| ((1 : Int32) <<< (iI (b : Nat) &&& 31)))) br (nd + 1) := by
  obtain ⟨h7, hL, hr, hbr, hnd⟩ := hK
  have e0 : su st (6 + 5 * a + 4) (tb (st (6 + 5 * a + 4)) b true) 0 = st 0 := su_ne (by omega)
  refine ⟨by rw [e0]; exact h7, LI_su hL (by omega) (Or.inr ⟨a, 4, by omega, by omega, rfl⟩), fun i hi => ?_, ?_, ?_⟩
  · rw [e0] at hi
    obtain ⟨p, q⟩ := hr i hi
    rw [su_ne (by omega)]
    refine ⟨p, ?_⟩
    by_cases e : i = a
    · subst e
      rw [pk_us, su_eq, q, or_sh (by omega)]
    · rw [pk_un e, su_ne (by omega)]
      exact q
  · rw [e0, pcs_ne (fun k _ => by omega)]; exact hbr
  · rw [e0]
    have := pcs_su (s := st) (w := 4) (i := a) (v := tb (st (6 + 5 * a + 4)) b true) (by omega) (n := st 0) ha
    rw [pcn_tb hbit (by omega)] at this
    omega
theorem SY_su {k v : Nat} (h : SY st) (hk : k ≠ 0 ∧ ∀ i, k ≠ 6 + 5 * i + 3) : SY (su st k v) := by
  intro i j hi hj
  rw [su_ne (fun z => hk.1 z.symm)] at hi hj
  rw [su_ne (fun z => hk.2 i z.symm), su_ne (fun z => hk.2 j z.symm)]
  exact h i j hi hj
theorem LK_bar (hK : LK sn sx high st ta na br nd) (hY : SY st) {a b : Nat} (ha : a < st 0) (hb : b < st 0) (hab : a ≠ b) (hbit : (st (6 + 5 * a + 3)).testBit b = false) : LK sn sx high (barS st a b true) (upd (upd ta a (ta a ||| ((1 : Int32) <<< (iI (b : Nat) &&& 31)))) b ((upd ta a (ta a ||| ((1 : Int32) <<< (iI (b : Nat) &&& 31)))) b ||| ((1 : Int32) <<< (iI (a : Nat) &&& 31)))) na (br + 1) nd ∧ SY (barS st a b true) := by
  obtain ⟨h7, hL, hr, hbr, hnd⟩ := hK
  have hbit2 : (st (6 + 5 * b + 3)).testBit a = false := by rw [← hY a b ha hb]; exact hbit
  have e0 : barS st a b true 0 = st 0 := by unfold barS; rw [su_ne (by omega), su_ne (by omega)]
  have ea : barS st a b true (6 + 5 * a + 3) = tb (st (6 + 5 * a + 3)) b true := by unfold barS; rw [su_ne (by omega), su_eq]
  have eb : barS st a b true (6 + 5 * b + 3) = tb (st (6 + 5 * b + 3)) a true := su_eq
  have en : ∀ i, i ≠ a → i ≠ b → barS st a b true (6 + 5 * i + 3) = st (6 + 5 * i + 3) := fun i h1 h2 => by unfold barS; rw [su_ne (by omega), su_ne (by omega)]
  refine ⟨⟨by rw [e0]; exact h7, LI_su (LI_su hL (by omega) (Or.inr ⟨a, 3, by omega, by omega, rfl⟩)) (by omega) (Or.inr ⟨b, 3, by omega, by omega, rfl⟩), fun i hi => ?_, ?_, ?_⟩, fun i j hi hj => ?_⟩
  · rw [e0] at hi
    obtain ⟨p, q⟩ := hr i hi
    refine ⟨?_, by unfold barS; rw [su_ne (by omega), su_ne (by omega)]; exact q⟩
    by_cases e : i = b
    · subst e
      rw [pk_us, pk_un (fun z => hab z.symm), eb, p, or_sh (by omega)]
    · rw [pk_un e]
      by_cases e2 : i = a
      · subst e2
        rw [pk_us, ea, p, or_sh (by omega)]
      · rw [pk_un e2, en i e2 e]
        exact p
  · rw [e0]
    have p1 := pcs_su (s := st) (w := 3) (i := a) (v := tb (st (6 + 5 * a + 3)) b true) (by omega) (n := st 0) ha
    have p2 := pcs_su (s := su st (6 + 5 * a + 3) (tb (st (6 + 5 * a + 3)) b true)) (w := 3) (i := b) (v := tb (st (6 + 5 * b + 3)) a true) (by omega) (n := st 0) hb
    rw [su_ne (show 6 + 5 * b + 3 ≠ 6 + 5 * a + 3 by omega), pcn_tb hbit2 (by omega)] at p2
    rw [pcn_tb hbit (by omega)] at p1
    unfold barS
    omega
  · rw [e0]
    unfold barS
    rw [pcs_ne (fun k _ => by omega), pcs_ne (fun k _ => by omega)]; exact hnd
  · rw [e0] at hi hj
    have y := hY i j hi hj
    by_cases i1 : i = a
    · subst i1
      rw [ea, tb_t, bit_set]
      by_cases j1 : j = b
      · subst j1
        rw [eb, tb_t, bit_set]
        simp
      · by_cases j2 : j = i
        · subst j2
          rw [ea, tb_t, bit_set]
        · rw [en j j2 j1]
          simp [j1, y]
    · by_cases i2 : i = b
      · subst i2
        rw [eb, tb_t, bit_set]
        by_cases j1 : j = a
        · subst j1
          rw [ea, tb_t, bit_set]
          simp [y]
        · by_cases j2 : j = i
          · subst j2
            rw [eb, tb_t, bit_set]
          · rw [en j j1 j2]
            simp [j1, y]
      · rw [en i i1 i2]
        by_cases j1 : j = a
        · subst j1
          rw [ea, tb_t, bit_set, y]
          simp [i2]
        · by_cases j2 : j = b
          · subst j2
            rw [eb, tb_t, bit_set, y]
            simp [i1]
          · rw [en j j1 j2]
            exact y
end
