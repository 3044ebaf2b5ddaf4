/-! THE LAW LOADS: rows' bits -/
theorem bit_set (n j i : Nat) : (n ||| 2 ^ j).testBit i = (n.testBit i || decide (i = j)) := by
  rw [Nat.testBit_or, Nat.testBit_two_pow]
  congr 1
  by_cases e : i = j
  · subst e; simp
  · simp [e, show ¬ j = i from fun z => e z.symm]
theorem pcs_12 {s : Nat → Nat} {w : Nat} : ∀ n, pcs s w n ≤ 12 * n
  | 0 => Nat.le_refl _
  | n + 1 => by
    have := pcs_12 (s := s) (w := w) n
    have := pcn_le (s (6 + 5 * n + w)) 12
    simp only [pcs]
    omega
theorem pcn_or {v j : Nat} (hb : v.testBit j = false) : ∀ {k : Nat}, pcn (v ||| 2 ^ j) k = pcn v k + (if j < k then 1 else 0)
  | 0 => by simp [pcn]
  | k + 1 => by
    have ih := pcn_or hb (k := k)
    simp only [pcn]
    rw [ih, bit_set]
    by_cases e : k = j
    · subst e
      rw [hb]
      simp
    · simp only [e, decide_false, Bool.or_false]
      by_cases c : j < k
      · rw [if_pos c, if_pos (show j < k + 1 by omega)]; omega
      · rw [if_neg c, if_neg (show ¬ j < k + 1 by omega)]; omega
theorem pcs_su {s : Nat → Nat} {w i v : Nat} (hw : w < 5) : ∀ {n : Nat}, i < n → pcs (su s (6 + 5 * i + w) v) w n + pcn (s (6 + 5 * i + w)) 12 = pcs s w n + pcn v 12
  | 0, h => absurd h (Nat.not_lt_zero _)
  | n + 1, h => by
    simp only [pcs]
    by_cases e : i = n
    · subst e
      rw [su_eq]
      have : ∀ m, m ≤ i → pcs (su s (6 + 5 * i + w) v) w m = pcs s w m := by
        intro m
        induction m with
        | zero => intro _; rfl
        | succ m ih => intro hm; simp only [pcs]; rw [ih (by omega), su_ne (by omega)]
      rw [this i (Nat.le_refl _)]
      omega
    · have := pcs_su (s := s) (v := v) hw (i := i) (n := n) (by omega)
      rw [su_ne (show 6 + 5 * n + w ≠ 6 + 5 * i + w by omega)]
      omega
theorem pcs_ne {s : Nat → Nat} {w j v : Nat} : ∀ {n : Nat}, (∀ k, k < n → 6 + 5 * k + w ≠ j) → pcs (su s j v) w n = pcs s w n
  | 0, _ => rfl
  | n + 1, h => by
    simp only [pcs]
    rw [pcs_ne (fun k hk => h k (by omega)), su_ne (h n (by omega))]
theorem bit0 {q k : Nat} (hq : q < 4096) (hk : k < 32) : ((iI (q : Nat) >>> (iI (k : Nat) &&& 31)) &&& (1 : Int32)) = 0 ↔ q.testBit k = false := by
  rw [iI_bit (by omega) hk]
  cases q.testBit k
  · exact ⟨fun _ => rfl, fun _ => by decide +kernel⟩
  · exact ⟨fun z => absurd z (by decide +kernel), fun z => absurd z (by decide)⟩
/-- the items that the law drew -/
def LI (sn : Nat) (sx : Nat → Int32) (high : Nat) (st : Nat → Nat) : Prop := ∀ i w, i < st 0 → w < 3 → st (6 + 5 * i + w) = drw sn sx (10 + w + 3 * i) high
theorem LI_su {sn : Nat} {sx : Nat → Int32} {high : Nat} {st : Nat → Nat} {k v : Nat} (h : LI sn sx high st) (hk : k ≠ 0) (hk2 : k < 6 ∨ ∃ i w, 3 ≤ w ∧ w < 5 ∧ k = 6 + 5 * i + w) : LI sn sx high (su st k v) := by
  intro i w hi hw
  rw [su_ne (by omega)] at hi
  rw [su_ne (by rcases hk2 with c | ⟨a, b, c, d, e⟩ <;> omega)]
  exact h i w hi hw
section
variable {sn : Nat} {sx : Nat → Int32} {high : Nat} {Q : Int32 → DT → Prop} {st : Nat → Nat} {by_ : Nat → Int} {d : DT} {ta na : Nat → Int32}
theorem sL_items (hsn : sn < 2147483648) (h1 : 8 ≤ high) (h2 : high ≤ 100) (hI : IV st 0 by_ 0 (-1) d) (h7 : st 0 ≤ 7) (hL : LI sn sx high st) (hb : ∀ i, i < st 0 → ta i = iI (st (6 + 5 * i + 3) : Nat) ∧ na i = iI (st (6 + 5 * i + 4) : Nat)) (hQ : Q 1 d) : ∀ (m i : Nat), i + m = st 0 → wp_L_load_L606 sn sx (iI (st 0 : Nat)) (iI (high : Nat)) ta na Q (m + 1) (iI (i : Nat)) d := by
  intro m
  induction m with
  | zero =>
    intro i hi
    unfold wp_L_load_L606
    rw [iI_le (by omega) (by omega) (by omega) (by omega)]
    exact ⟨fun _ => hQ, fun z => by omega⟩
  | succ m ih =>
    intro i hi
    unfold wp_L_load_L606
    rw [iI_le (by omega) (by omega) (by omega) (by omega)]
    refine ⟨fun z => by omega, fun _ => ⟨⟨Nat.le_refl _, Nat.le_refl _⟩, 4, ?_⟩⟩
    have key : ∀ (m2 w : Nat) (k655 : DT → Prop), w + m2 = 3 → k655 d → wp_L_load_L615 sn sx (iI (st 0 : Nat)) (iI (high : Nat)) (iI (i : Nat)) ta na k655 Q (m2 + 1) (iI (w : Nat)) d := by
      intro m2
      induction m2 with
      | zero =>
        intro w k655 hw hk
        unfold wp_L_load_L615
        obtain rfl : w = 3 := by omega
        exact ⟨fun _ => ⟨⟨Nat.le_refl _, Nat.le_refl _⟩, hk⟩, fun z => absurd (by decide) z⟩
      | succ m2 ih2 =>
        intro w k655 hw hk
        unfold wp_L_load_L615
        rw [show (3 : Int32) = iI ((3 : Nat) : Int) from rfl, iI_le (by omega) (by omega) (by omega) (by omega), show (10 : Int32) = iI ((10 : Nat) : Int) from rfl, iI_add, iI_mul, iI_add, show (((10 : Nat) : Int) + (w : Int) + ((3 : Nat) : Int) * (i : Int)) = ((10 + w + 3 * i : Nat) : Int) by omega, iI_succ]
        refine ⟨fun z => by omega, fun _ => ⟨⟨Nat.le_refl _, Nat.le_refl _⟩, sN_item hI (by omega) (by omega) ⟨⟨Nat.le_refl _, Nat.le_refl _⟩, sL_draw hsn (by omega) (by omega) (by omega) ?_⟩⟩⟩
        rw [hL i w (by omega) (by omega)]
        exact ⟨fun _ => ⟨⟨Nat.le_refl _, Nat.le_refl _⟩, ih2 (w + 1) k655 (by omega) hk⟩, fun z => absurd rfl z⟩
    refine key 3 0 _ (by omega) ⟨⟨Nat.le_refl _, Nat.le_refl _⟩, sN_item (w := 3) hI (by omega) (by omega) ?_⟩
    obtain ⟨b1, b2⟩ := hb i (by omega)
    rw [iI_clN (by omega), b1, b2, iI_succ]
    refine ⟨in_lit (by omega) (by omega), fun z => absurd rfl z, fun _ => ⟨⟨Nat.le_refl _, Nat.le_refl _⟩, sN_item (w := 4) hI (by omega) (by omega) ?_⟩⟩
    exact ⟨in_lit (by omega) (by omega), fun _ => ⟨⟨Nat.le_refl _, Nat.le_refl _⟩, ih (i + 1) (by omega)⟩, fun z => absurd rfl z⟩
/-- must or never: x, or -1 for none -/
def mn (x : Int) (v : Nat) : Prop := x = -1 ∧ v = 0 ∨ ∃ a : Nat, x = (a : Int) ∧ a < 12 ∧ v = 2 ^ a
theorem mn_e {x : Int} {v : Nat} (h : mn x v) : (0 ≤ x → iI (v : Nat) = (1 : Int32) <<< (iI x &&& 31)) ∧ (¬ 0 ≤ x → iI (v : Nat) = 0) := by
  rcases h with ⟨a, b⟩ | ⟨a, b, c, e⟩
  · subst a; subst b
    exact ⟨fun z => absurd z (by decide), fun _ => rfl⟩
  · subst b; subst e
    rw [iI_shl1 a (by omega)]
    exact ⟨fun _ => rfl, fun z => absurd (by omega) z⟩
theorem mn_r {x : Int} {v : Nat} (h : mn x v) : -1 ≤ x ∧ x < 12 := by
  rcases h with ⟨a, b⟩ | ⟨a, b, c, e⟩ <;> omega
theorem sL_576 (hsn : sn < 2147483648) (h1 : 8 ≤ high) (h2 : high ≤ 100) (hI : IV st 0 by_ 0 (-1) d) (h7 : st 0 ≤ 7) (hL : LI sn sx high st) (hb : ∀ i, i < st 0 → ta i = iI (st (6 + 5 * i + 3) : Nat) ∧ na i = iI (st (6 + 5 * i + 4) : Nat)) (hQ : Q 1 d) {x : Int} (hx : mn x (st 4)) {z : Int32} : wp_L_load_b576 sn sx Q (iI (st 0 : Nat)) (iI (high : Nat)) (iI x) z z d ta na := by
  have hr := mn_r hx
  obtain ⟨e1, e2⟩ := mn_e hx
  unfold wp_L_load_b576
  refine ⟨fun c => absurd rfl c, fun _ => ⟨⟨Nat.le_refl _, Nat.le_refl _⟩, sN_property (k := 6) hI (by omega) ?_⟩⟩
  show (0 ≤ iI x → (iI (st 4 : Nat) = _ → _) ∧ (¬ iI (st 4 : Nat) = _ → _)) ∧ (¬ 0 ≤ iI x → (iI (st 4 : Nat) = _ → _) ∧ (¬ iI (st 4 : Nat) = _ → _))
  rw [ge0_I (by omega) (by omega)]
  have fin : (3000 ≤ 3000 ∧ 6000 ≤ 6000) ∧ (∃ n606, wp_L_load_L606 sn sx (iI (st 0 : Nat)) (iI (high : Nat)) ta na Q n606 (0 : Int32) d) := ⟨⟨Nat.le_refl _, Nat.le_refl _⟩, st 0 + 1, sL_items hsn h1 h2 hI h7 hL hb hQ (st 0) 0 (by omega)⟩
  exact ⟨fun c => ⟨fun _ => fin, fun z => absurd (e1 c) z⟩, fun c => ⟨fun _ => fin, fun z => absurd (e2 c) z⟩⟩
end
/-- the text so far tells st -/
def LT (T : List Int32) (c l : Nat) (st : Nat → Nat) (m : Nat) : Prop := c ≤ 999 ∧ l ≤ 12 ∧ ∃ X k, T = lC1 ++ (dd c ++ (lL1 ++ (dd l ++ (lSe ++ X)))) ∧ Ps X (pz0 c l) st k ∧ k ≤ m ∧ WF st ∧ st 1 = c ∧ st 5 = 0
theorem LT_app {T Y : List Int32} {c l m : Nat} {st st2 : Nat → Nat} (h : LT T c l st m) (hY : Ps Y st st2 1) (hW : WF st2) (h1 : st2 1 = st 1) (h5 : st2 5 = st 5) : LT (T ++ Y) c l st2 (m + 1) := by
  obtain ⟨a, b, X, k, e, f, g, w, i, j⟩ := h
  refine ⟨a, b, X ++ Y, k + 1, ?_, Ps_app f hY, by omega, hW, by omega, by omega⟩
  rw [e]
  simp only [List.append_assoc]
section
variable {sn : Nat} {sx : Nat → Int32} {high : Nat} {Q : Int32 → DT → Prop} {st s0 : Nat → Nat} {by_ : Nat → Int} {cc pp : Int} {d : DT} {ta na : Nat → Int32} {T : List Int32} {c l m : Nat} {tp tn : Nat} {tf : Nat → Int32} {tc tl : Int32}
/-- all that the law keeps while it lays the text -/
def LK (sn : Nat) (sx : Nat → Int32) (high : Nat) (st : Nat → Nat) (ta na : Nat → Int32) (br nd : Nat) : Prop := st 0 ≤ 7 ∧ LI sn sx high st ∧ (∀ i, i < st 0 → ta i = iI (st (6 + 5 * i + 3) : Nat) ∧ na i = iI (st (6 + 5 * i + 4) : Nat)) ∧ pcs st 3 (st 0) = 2 * br ∧ pcs st 4 (st 0) = nd
theorem sL_486 (hsn : sn < 2147483648) (h1 : 8 ≤ high) (h2 : high ≤ 100) (hI : IV s0 0 by_ cc pp d) {br nd : Nat} (hK : LK sn sx high st ta na br nd) (hT : LT T c l st m) (hm : m ≤ 600) (hl : T.length ≤ 580) (hS : SBS T tn tf tc) {x y : Int} (hx : mn x (st 3)) (hy : mn y (st 4)) (hQ : ∀ by2 d2, IV st 0 by2 0 (-1) d2 → Q 1 d2) : wp_L_load_b486 sn sx Q (iI (st 0 : Nat)) (iI (high : Nat)) (iI (br : Nat)) (iI (nd : Nat)) (iI x) (iI y) d tp tn tf tc tl ta na := by
  obtain ⟨h7, hL, hb, hbr, hnd⟩ := hK
  obtain ⟨hc, hll, X, k, e, f, g, w, i, j⟩ := hT
  obtain ⟨a1, a2, a3, a4, a5, a6⟩ := id hS
  have hr := mn_r hx
  obtain ⟨e1, e2⟩ := mn_e hx
  have t0 : 0 < T.length := by rw [e, List.length_append]; simp only [List.length_cons]; omega
  have bb : (12 + tn) + 2 ≤ 3000 ∧ (140 + 2 * tn) + (4 + T.length) ≤ 6000 := ⟨by omega, by omega⟩
  unfold wp_L_load_b486
  refine ⟨2, 4 + T.length, bb, sb_str hS (Nat.le_refl _) (Nat.le_refl _) fun ua ub fu hu => ⟨bb, ?_⟩⟩
  rw [range_map hu]
  refine sL_feed a1 hl t0 hI fun by2 d2 hb2 hI2 => ⟨bb, ?_⟩
  have hp : pzT T.length by2 = .ok st := by
    refine pzT_ok hc hll (by omega) f ?_
    rw [← e]
    exact ⟨by omega, fun i hi => by rw [Nat.zero_add]; exact hb2 i hi⟩
  refine sK_load hI2 w hp fun d3 hI3 => ⟨fun z => absurd rfl z, fun _ => ⟨bb, sK_errorCode hI3 ⟨fun z => absurd rfl z, fun _ => ⟨bb, sK_errorPosition hI3 ⟨fun z => absurd iI_m1.symm z, fun _ => ⟨bb, sN_property (k := 0) hI3 (by omega) ⟨fun z => absurd rfl z, fun _ => ⟨bb, sN_property (k := 7) hI3 (by omega) ?_⟩⟩⟩⟩⟩⟩⟩⟩
  have e7 : prv7 st 7 = 0 := by show iI (st 5 : Nat) = 0; rw [j]; rfl
  have e3 : prv7 st 3 = iI (br : Nat) := by
    show iI (pcs st 3 (st 0) : Nat) / 2 = iI (br : Nat)
    have := pcs_12 (s := st) (w := 3) (st 0)
    rw [hbr, show (2 : Int32) = iI ((2 : Nat) : Int) from rfl, iI_divN (by omega) (by omega) (by omega)]
    congr 1
    omega
  have e4 : prv7 st 4 = iI (nd : Nat) := by show iI (pcs st 4 (st 0) : Nat) = _; rw [hnd]
  refine ⟨fun z => absurd e7 z, fun _ => ⟨bb, sN_property (k := 3) hI3 (by omega) ⟨fun z => absurd e3 z, fun _ => ⟨bb, sN_property (k := 4) hI3 (by omega) ⟨fun _ => ⟨bb, sN_property (k := 5) hI3 (by omega) ?_⟩, fun z => absurd e4 z⟩⟩⟩⟩⟩
  show (0 ≤ iI x → _) ∧ (¬ 0 ≤ iI x → _)
  rw [ge0_I (by omega) (by omega)]
  have e5 : prv7 st 5 = iI (st 3 : Nat) := rfl
  refine ⟨fun z => ⟨bb, ?_⟩, fun z => ⟨bb, ?_⟩⟩
  · rw [e5, e1 z]
    exact sL_576 hsn h1 h2 hI3 h7 hL hb (hQ by2 d3 hI3) hy
  · rw [e5, e2 z]
    exact sL_576 hsn h1 h2 hI3 h7 hL hb (hQ by2 d3 hI3) hy
end
