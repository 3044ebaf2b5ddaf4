/-! THE SEARCH by the reference: three numbers a step in one row -/
def stpP (h : Nat → Int) (steps : Nat → Int32) : Prop := ∀ k, k < SX h → steps (3 * k) = iI (SRf h (SX h) k : Nat) ∧ steps (3 * k + 1) = iI (SRt h (SX h) k : Nat) ∧ steps (3 * k + 2) = iI (SRd h (SX h) k)
theorem i3 (x : Nat) {w : Nat} (hx : x < 100000) : ((3 : Int32) * iI (x : Nat)) + iI (w : Nat) = iI ((3 * x + w : Nat) : Int) := by
  rw [iI_lit 3, iI_mul, iI_add]
  exact congrArg iI (by omega)
theorem sp_stepP {h : Nat → Int} {joy steps : Nat → Int32} (hj : ∀ n, n < PN h → joy n = iI (PJ h n)) {x i j : Nat} (hx : x < 2378) (e1 : steps (3 * x) = iI (i : Nat)) (e2 : steps (3 * x + 1) = iI (j : Nat)) (hi : i < PN h) (hj2 : j < PN h) {Q : Int32 → Prop} (hQ : Q (iI (PJ h i - PJ h j))) : wp_X11_stepP (iI (x : Nat)) steps joy Q := by
  have hN := PN_le h
  unfold wp_X11_stepP
  rw [iI_lit 0, iI_lit 1, i3 x (w := 0) (by omega), i3 x (w := 1) (by omega), iI_clN (by omega), iI_clN (by omega), Nat.add_zero, e1, e2, iI_clN (by omega), iI_clN (by omega), hj i hi, hj j hj2, iI_sub]
  exact ⟨in_lit (by omega) (by omega), in_lit (by omega) (by omega), in_lit (by omega) (by omega), in_lit (by omega) (by omega), hQ⟩
theorem sp_stepQ {h : Nat → Int} {gain steps : Nat → Int32} (hj : ∀ n, n < PN h → gain n = iI (PG h n : Nat)) {x i j : Nat} (hx : x < 2378) (e1 : steps (3 * x) = iI (i : Nat)) (e2 : steps (3 * x + 1) = iI (j : Nat)) (hi : i < PN h) (hj2 : j < PN h) {Q : Int32 → Prop} (hQ : Q (iI ((PG h j : Int) - PG h i))) : wp_X11_stepQ (iI (x : Nat)) steps gain Q := by
  have hN := PN_le h
  unfold wp_X11_stepQ
  rw [iI_lit 0, iI_lit 1, i3 x (w := 0) (by omega), i3 x (w := 1) (by omega), iI_clN (by omega), iI_clN (by omega), show 3 * x + 0 = 3 * x from Nat.add_zero _, e1, e2, iI_clN (by omega), iI_clN (by omega), hj i hi, hj j hj2, iI_sub]
  exact ⟨in_lit (by omega) (by omega), in_lit (by omega) (by omega), in_lit (by omega) (by omega), in_lit (by omega) (by omega), hQ⟩
theorem sp_enqueueR {i j c : Nat} (hc : c < 2378) {steps : Nat → Int32} {Q : Int32 → (Nat → Int32) → Prop} (hQ : Q (iI ((c + 1 : Nat) : Int)) (upd (upd steps (3 * c) (iI (i : Nat))) (3 * c + 1) (iI (j : Nat)))) : wp_X11_enqueue (iI (i : Nat)) (iI (j : Nat)) (iI (c : Nat)) steps Q := by
  unfold wp_X11_enqueue
  have e1 : iI (c : Nat) + (1 : Int32) = iI ((c + 1 : Nat) : Int) := iI_succ c
  rw [e1, iI_lit 0, iI_lit 1, i3 c (w := 0) (by omega), i3 c (w := 1) (by omega), iI_clN (by omega), iI_clN (by omega)]
  exact ⟨in_lit (by omega) (by omega), in_lit (by omega) (by omega), hQ⟩
theorem sl_search {h : Nat → Int} (hs : stP h) {t_row : Nat → Int32} {t_allowedMany : Int32} {t_pointMany : Int32} {t_joyAt : Nat → Int32} {t_pointAt : Nat → Int32} {t_pointGain : Nat → Int32} {t_pointJoy : Nat → Int32} {t_pointTimes : Nat → Int32} {Q : Int32 → Int32 → Int32 → Int32 → (Nat → Int32) → (Nat → Int32) → (Nat → Int32) → (Nat → Int32) → (Nat → Int32) → (Nat → Int32) → Prop} (hG : ptG h t_pointGain t_pointJoy) (hpm : t_pointMany = iI (PN h : Nat)) (hQ : ∀ sm qu st, sm = iI (SX h : Nat) → stpP h st → Q t_allowedMany t_pointMany sm qu t_joyAt t_pointAt t_pointGain t_pointJoy t_pointTimes st) :
    ∀ (d x : Nat) (c : Int32) (st : Nat → Int32), x + d = 2376 → sfx h d x = SX h → SRI h x → c = iI (SRc h x : Nat) → (∀ k, k < SRc h x → st (3 * k) = iI (SRf h x k : Nat) ∧ st (3 * k + 1) = iI (SRt h x k : Nat)) → (∀ k, k < x → st (3 * k + 2) = iI (SRd h x k)) → wp_X11_search_L33 t_row t_allowedMany t_pointMany t_joyAt t_pointAt t_pointGain t_pointJoy t_pointTimes Q (d + 1) (iI (x : Nat)) c st := by
  have hN := PN_le h
  intro d
  induction d with
  | zero =>
    intro x c st hx hsf hI
    have := SRI_le hI
    have := hI.1
    omega
  | succ d ih =>
    intro x c st hx hsf hI hc hft hfd
    have hle := SRI_le hI
    have hx1 := hI.1
    subst hc
    unfold wp_X11_search_L33
    rw [iI_le (by omega) (by omega) (by omega) (by omega)]
    refine ⟨fun z => ?_, fun z => ?_⟩
    · have e : SRc h x = x := by omega
      have eX : SX h = x := by
        rw [← hsf]
        simp only [sfx]
        rw [if_pos (by omega)]
      refine hQ _ _ _ (by rw [eX]) fun k hk => ?_
      rw [eX] at hk ⊢
      obtain ⟨a, b⟩ := hft k (by omega)
      exact ⟨a, b, hfd k hk⟩
    have hsf2 : sfx h d (x + 1) = SX h := by
      rw [← hsf]
      simp only [sfx]
      rw [if_neg (by omega)]
    have hI2 := SRI_step hs hI (by omega)
    obtain ⟨b1, b2, b3, b4⟩ := hI.2.1 x (by omega)
    obtain ⟨a1, a2⟩ := hft x (by omega)
    have g1 := PG_lt b1 b2
    have j1 := PJ_lt hs b1 b2
    have gi := PG_rng (h := h) (n := SRf h x x) (by omega)
    have gj := PG_rng b2
    have ji := PJ_rng hs (n := SRf h x x) (by omega)
    have jj := PJ_rng hs b2
    have ex : iI (x : Nat) + (1 : Int32) = iI ((x + 1 : Nat) : Int) := iI_succ x
    rw [ex, iI_lit 0, iI_lit 1, iI_lit 2, i3 x (w := 0) (by omega), i3 x (w := 1) (by omega), i3 x (w := 2) (by omega), iI_clN (by omega), iI_clN (by omega), iI_clN (by omega), Nat.add_zero, a1, a2]
    refine ⟨in_lit (by omega) (by omega), fun v57 hv57 => ⟨in_lit (by omega) (by omega), fun v71 hv71 => ?_⟩⟩
    subst hv57; subst hv71
    refine sp_stepP hG.2 (by omega) a1 a2 (by omega) b2 (sp_stepQ hG.1 (by omega) a1 a2 (by omega) b2 (sp_bestBy hs hG hpm (by omega) (by omega) (by omega) (by omega) ?_))
    obtain ⟨r, hr, e⟩ := gb_pos (v := vl h (PJ h (SRf h x x) - PJ h (SRt h x x)) ((PG h (SRt h x x) : Int) - PG h (SRf h x x))) (n := PN h) (by omega)
    have rv := fun n (hn : n < PN h) => vl_rng hs (p := PJ h (SRf h x x) - PJ h (SRt h x x)) (q := (PG h (SRt h x x) : Int) - PG h (SRf h x x)) (by omega) (by omega) (by omega) (by omega) hn
    have r1 := rv r hr
    have r2 := rv (SRf h x x) (by omega)
    have hf : fab h (SRf h x x) (SRt h x x) = if vab h (SRf h x x) (SRt h x x) r ≤ vab h (SRf h x x) (SRt h x x) (SRf h x x) then -1 else (r : Int) := by
      have e' : gb (vab h (SRf h x x) (SRt h x x)) (PN h) = (r : Int) := e
      unfold fab
      rw [e', if_neg (by omega), Int.toNat_natCast]
    rw [e]
    refine sp_valueOfM hG hr (sp_valueOfM hG (by omega) ?_)
    rw [iI_le (show -2147483648 ≤ (PJ h (SRf h x x) - PJ h (SRt h x x)) * (PG h r : Int) + ((PG h (SRt h x x) : Int) - PG h (SRf h x x)) * PJ h r by unfold vl at r1; omega) (by unfold vl at r1; omega) (by unfold vl at r2; omega) (by unfold vl at r2; omega)]
    refine ⟨fun c => ⟨in_lit (by omega) (by omega), ?_⟩, fun c => ⟨in_lit (by omega) (by omega), ?_⟩⟩
    · rw [if_pos (show vab h (SRf h x x) (SRt h x x) r ≤ vab h (SRf h x x) (SRt h x x) (SRf h x x) from c)] at hf
      obtain ⟨c1, c2, c3, c4⟩ := SR_no hf
      refine ih (x + 1) _ _ (by omega) hsf2 hI2 (by rw [c1]) (fun k hk => ?_) (fun k hk => ?_)
      · rw [c2, c3, pk_un (by omega), pk_un (by omega)]; exact hft k (by omega)
      · rw [c4]
        by_cases q : k = x
        · rw [q, pk_us, if_pos rfl]; exact iI_m1
        · rw [pk_un (by omega), if_neg q]; exact hfd k (by omega)
    · rw [if_neg (show ¬ vab h (SRf h x x) (SRt h x x) r ≤ vab h (SRf h x x) (SRt h x x) (SRf h x x) from c)] at hf
      obtain ⟨c1, c2, c3, c4⟩ := SR_ye hf
      have hle2 := SRI_le hI2
      refine sp_enqueueR (by omega) (sp_enqueueR (by omega) ?_)
      refine ih (x + 1) _ _ (by omega) hsf2 hI2 (by rw [c1]) (fun k hk => ?_) (fun k hk => ?_)
      · rw [c2, c3]
        by_cases q1 : k = SRc h x
        · rw [if_pos q1, if_pos q1, q1, pk_un (show 3 * SRc h x ≠ 3 * (SRc h x + 1) + 1 by omega), pk_un (show 3 * SRc h x ≠ 3 * (SRc h x + 1) by omega), pk_un (show 3 * SRc h x ≠ 3 * SRc h x + 1 by omega), pk_us, pk_un (show 3 * SRc h x + 1 ≠ 3 * (SRc h x + 1) + 1 by omega), pk_un (show 3 * SRc h x + 1 ≠ 3 * (SRc h x + 1) by omega), pk_us]
          exact ⟨rfl, rfl⟩
        · rw [if_neg q1, if_neg q1]
          by_cases q2 : k = SRc h x + 1
          · rw [if_pos q2, if_pos q2, q2, pk_un (show 3 * (SRc h x + 1) ≠ 3 * (SRc h x + 1) + 1 by omega), pk_us, pk_us]
            exact ⟨rfl, rfl⟩
          · rw [if_neg q2, if_neg q2, pk_un (show 3 * k ≠ 3 * (SRc h x + 1) + 1 by omega), pk_un (show 3 * k ≠ 3 * (SRc h x + 1) by omega), pk_un (show 3 * k ≠ 3 * SRc h x + 1 by omega), pk_un (show 3 * k ≠ 3 * SRc h x by omega), pk_un (show 3 * k ≠ 3 * x + 2 by omega), pk_un (show 3 * k + 1 ≠ 3 * (SRc h x + 1) + 1 by omega), pk_un (show 3 * k + 1 ≠ 3 * (SRc h x + 1) by omega), pk_un (show 3 * k + 1 ≠ 3 * SRc h x + 1 by omega), pk_un (show 3 * k + 1 ≠ 3 * SRc h x by omega), pk_un (show 3 * k + 1 ≠ 3 * x + 2 by omega)]
            exact hft k (by omega)
      · rw [c4, pk_un (show 3 * k + 2 ≠ 3 * (SRc h x + 1) + 1 by omega), pk_un (show 3 * k + 2 ≠ 3 * (SRc h x + 1) by omega), pk_un (show 3 * k + 2 ≠ 3 * SRc h x + 1 by omega), pk_un (show 3 * k + 2 ≠ 3 * SRc h x by omega)]
        by_cases q : k = x
        · rw [q, pk_us, if_pos rfl]
        · rw [pk_un (by omega), if_neg q]; exact hfd k (by omega)
theorem sp_search {s : Nat → Nat} (hW : WF s) {t_allowedMany : Int32} {t_pointMany : Int32} {t_stepMany : Int32} {t_queued : Int32} {t_joyAt : Nat → Int32} {t_row : Nat → Int32} {t_pointAt : Nat → Int32} {t_pointGain : Nat → Int32} {t_pointJoy : Nat → Int32} {t_pointTimes : Nat → Int32} {t_steps : Nat → Int32} {Q : Int32 → Int32 → Int32 → Int32 → (Nat → Int32) → (Nat → Int32) → (Nat → Int32) → (Nat → Int32) → (Nat → Int32) → (Nat → Int32) → Prop} (hN : neP s t_row) (hQ : ∀ am pm sm qu ja pa g j ti st, mpH s am pm ja pa g j → sm = iI (SX (HH s) : Nat) → stpP (HH s) st → Q am pm sm qu ja pa g j ti st) : wp_X11_search t_allowedMany t_pointMany t_stepMany t_queued t_joyAt t_row t_pointAt t_pointGain t_pointJoy t_pointTimes t_steps Q := by
  have hs := HH_stP hW
  have hN2 := PN_le (HH s)
  have e0 : SRc (HH s) 0 = if PN (HH s) < 2 then 0 else 1 := rfl
  unfold wp_X11_search
  refine sp_layP hW hN fun am pm ja pa g j ti hM hT => ?_
  have go := sl_search hs (t_row := t_row) (t_allowedMany := am) (t_joyAt := ja) (t_pointAt := pa) (t_pointTimes := ti) (Q := Q) hM.2.2.2.2 hM.2.1 (fun sm qu st h1 h2 => hQ am pm sm qu ja pa g j ti st hM h1 h2) 2376 0
  have z1 : pm ≤ 1 ↔ PN (HH s) < 2 := by rw [hM.2.1, iI_lit 1, iI_le (by omega) (by omega) (by omega) (by omega)]; omega
  rw [z1]
  refine ⟨fun w => ⟨2377, ?_⟩, fun w => ?_⟩
  · have q := go 0 t_steps (by omega) rfl (SRI_0 hs) (by rw [e0, if_pos w]; exact iI_lit 0) (fun k hk => by rw [e0, if_pos w] at hk; omega) (fun k hk => absurd hk (by omega))
    rw [show iI ((0 : Nat) : Int) = (0 : Int32) from (iI_lit 0).symm] at q
    exact q
  · have e2 : pm - (1 : Int32) = iI ((PN (HH s) - 1 : Nat) : Int) := by
      rw [hM.2.1, iI_lit 1, iI_sub]
      exact congrArg iI (by omega)
    rw [e2, show (0 : Int32) = iI ((0 : Nat) : Int) from iI_lit 0]
    refine sp_enqueueR (by omega) ⟨2377, go _ _ (by omega) rfl (SRI_0 hs) (by rw [e0, if_neg w]) (fun k hk => ?_) (fun k hk => absurd hk (by omega))⟩
    rw [e0, if_neg w] at hk
    rw [show k = 0 by omega]
    rw [pk_un (show 3 * 0 ≠ 3 * 0 + 1 by omega), pk_us, pk_us]
    exact ⟨rfl, rfl⟩
