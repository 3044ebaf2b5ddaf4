/-! CHANGES of items -/
abbrev vl9 (p : Int32) : Prop := 0 ≤ p.toInt ∧ p.toInt ≤ 99
theorem sq_addItem {s : Nat → Nat} (hW : WF s) {ps : List (Nat → Nat)} (hl : ps.length ≤ 8) {p1 : Int32} {p2 : Int32} {p3 : Int32} {t_frontierFresh : Int32} {t_searchFresh : Int32} {t_layersFresh : Int32} {t_now_items : Int32} {t_now_capacity : Int32} {t_now_limit : Int32} {t_now_mustSet : Int32} {t_now_neverSet : Int32} {t_now_hand : Int32} {t_past_count : Int32} {t_now_weight : Nat → Int32} {t_now_gain : Nat → Int32} {t_now_joy : Nat → Int32} {t_now_bars : Nat → Int32} {t_now_needs : Nat → Int32} {t_past_setups_pq : Nat → Nat → Nat} {t_past_setups_pi : Nat → Nat → Int32} {t_past_setups_pr : Nat → Nat → Nat → Int32} {Q : Int32 → Int32 → Int32 → Int32 → Int32 → Int32 → (Nat → Int32) → (Nat → Int32) → (Nat → Int32) → (Nat → Int32) → (Nat → Int32) → (Nat → Nat → Nat) → (Nat → Nat → Int32) → (Nat → Nat → Nat → Int32) → Prop} {QX : String → Int32 → Int32 → Int32 → Int32 → Int32 → (Nat → Int32) → (Nat → Int32) → (Nat → Int32) → (Nat → Int32) → (Nat → Int32) → (Nat → Nat → Nat) → (Nat → Nat → Int32) → (Nat → Nat → Nat → Int32) → Prop} (hP : paP ps t_past_count t_past_setups_pi t_past_setups_pr) (hS : suP s t_now_items t_now_capacity t_now_limit t_now_mustSet t_now_neverSet t_now_hand t_now_weight t_now_gain t_now_joy t_now_bars t_now_needs) (hQ : vl9 p1 ∧ vl9 p2 ∧ vl9 p3 → s 0 < 12 → ∀ items count w g j b n pq pi pr, suP (adS s p1.toInt.toNat p2.toInt.toNat p3.toInt.toNat) items t_now_capacity t_now_limit t_now_mustSet t_now_neverSet t_now_hand w g j b n → paP (pshL ps s) count pi pr → Q (iI (s 0)) 0 0 0 items count w g j b n pq pi pr)
    (hX : ∀ E, (¬ (vl9 p1 ∧ vl9 p2 ∧ vl9 p3) ∧ E = "java/lang/IllegalArgumentException") ∨ ((vl9 p1 ∧ vl9 p2 ∧ vl9 p3) ∧ ¬ s 0 < 12 ∧ E = "java/lang/IllegalStateException") → QX E t_frontierFresh t_searchFresh t_layersFresh t_now_items t_past_count t_now_weight t_now_gain t_now_joy t_now_bars t_now_needs t_past_setups_pq t_past_setups_pi t_past_setups_pr) : wp_X10_addItem p1 p2 p3 t_frontierFresh t_searchFresh t_layersFresh t_now_items t_now_capacity t_now_limit t_now_mustSet t_now_neverSet t_now_hand t_past_count t_now_weight t_now_gain t_now_joy t_now_bars t_now_needs t_past_setups_pq t_past_setups_pi t_past_setups_pr Q QX := by
  unfold wp_X10_addItem
  refine sp_reqV (fun a => sp_reqV (fun b => sp_reqV (fun c => ?_) (fun c => hX _ (Or.inl ⟨fun z => c z.2.2, rfl⟩))) (fun b => hX _ (Or.inl ⟨fun z => b z.2.1, rfl⟩))) (fun a => hX _ (Or.inl ⟨fun z => a z.1, rfl⟩))
  have h12 := hW.1
  have e : t_now_items < 12 ↔ s 0 < 12 := by rw [hS.1, iI_lit 12, iI_lt (by omega) (by omega) (by omega) (by omega)]; omega
  rw [e]
  refine ⟨fun d => sp_push hW hl hP hS fun count pq pi pr h => ?_, fun d => hX _ (Or.inr ⟨⟨a, b, c⟩, d, rfl⟩)⟩
  rw [i_nat a.1, i_nat b.1, i_nat c.1]
  refine sp_addLast d hS fun items w g j b2 n h2 => ?_
  unfold wp_X10_markChanged
  have := hQ ⟨a, b, c⟩ d items count w g j b2 n pq pi pr h2 h
  have e2 : items - 1 = iI (s 0) := by rw [h2.1, adS_0, iI_lit 1, iI_sub]; congr 1; omega
  rw [e2]
  exact this
theorem sq_dropItem {s : Nat → Nat} (hW : WF s) {ps : List (Nat → Nat)} (hl : ps.length ≤ 8) {p1 : Int32} {t_frontierFresh : Int32} {t_searchFresh : Int32} {t_layersFresh : Int32} {t_now_items : Int32} {t_now_capacity : Int32} {t_now_limit : Int32} {t_now_mustSet : Int32} {t_now_neverSet : Int32} {t_now_hand : Int32} {t_past_count : Int32} {t_now_weight : Nat → Int32} {t_now_gain : Nat → Int32} {t_now_joy : Nat → Int32} {t_now_bars : Nat → Int32} {t_now_needs : Nat → Int32} {t_past_setups_pq : Nat → Nat → Nat} {t_past_setups_pi : Nat → Nat → Int32} {t_past_setups_pr : Nat → Nat → Nat → Int32} {Q : Int32 → Int32 → Int32 → Int32 → Int32 → Int32 → Int32 → Int32 → Int32 → (Nat → Int32) → (Nat → Int32) → (Nat → Int32) → (Nat → Int32) → (Nat → Int32) → (Nat → Nat → Nat) → (Nat → Nat → Int32) → (Nat → Nat → Nat → Int32) → Prop} {QX : String → Int32 → Int32 → Int32 → Int32 → Int32 → Int32 → Int32 → Int32 → (Nat → Int32) → (Nat → Int32) → (Nat → Int32) → (Nat → Int32) → (Nat → Int32) → (Nat → Nat → Nat) → (Nat → Nat → Int32) → (Nat → Nat → Nat → Int32) → Prop} (hP : paP ps t_past_count t_past_setups_pi t_past_setups_pr) {cap lim : Int32} (hS : suP s t_now_items t_now_capacity t_now_limit t_now_mustSet t_now_neverSet t_now_hand t_now_weight t_now_gain t_now_joy t_now_bars t_now_needs) (hQ : 0 ≤ p1.toInt ∧ p1.toInt < s 0 → ∀ items mus nev hand count w g j b n pq pi pr, suP (drS s p1.toInt.toNat) items t_now_capacity t_now_limit mus nev hand w g j b n → paP (pshL ps s) count pi pr → Q (iI ((s 0 - 1 : Nat) : Int)) 0 0 0 items mus nev hand count w g j b n pq pi pr)
    (hX : ¬ (0 ≤ p1.toInt ∧ p1.toInt < s 0) → QX "java/lang/IndexOutOfBoundsException" t_frontierFresh t_searchFresh t_layersFresh t_now_items t_now_mustSet t_now_neverSet t_now_hand t_past_count t_now_weight t_now_gain t_now_joy t_now_bars t_now_needs t_past_setups_pq t_past_setups_pi t_past_setups_pr) : wp_X10_dropItem p1 t_frontierFresh t_searchFresh t_layersFresh t_now_items t_now_capacity t_now_limit t_now_mustSet t_now_neverSet t_now_hand t_past_count t_now_weight t_now_gain t_now_joy t_now_bars t_now_needs t_past_setups_pq t_past_setups_pi t_past_setups_pr Q QX := by
  unfold wp_X10_dropItem
  refine sp_reqItem hW hS.1 (fun a => sp_push hW hl hP hS fun count pq pi pr h => ?_) (fun a => hX a)
  rw [i_nat a.1]
  refine sp_dropS hW (k := p1.toInt.toNat) (by omega) hS fun items mus nev hand w g j b n h2 => ?_
  unfold wp_X10_markChanged
  have := hQ a items mus nev hand count w g j b n pq pi pr h2 h
  have e2 : items = iI ((s 0 - 1 : Nat) : Int) := by rw [h2.1, drS_0]
  rw [← e2] at this
  exact this
theorem sq_setItem {s : Nat → Nat} (hW : WF s) {ps : List (Nat → Nat)} (hl : ps.length ≤ 8) {p1 : Int32} {p2 : Int32} {p3 : Int32} {t_frontierFresh : Int32} {t_searchFresh : Int32} {t_layersFresh : Int32} {t_now_items : Int32} {t_now_capacity : Int32} {t_now_limit : Int32} {t_now_mustSet : Int32} {t_now_neverSet : Int32} {t_now_hand : Int32} {t_past_count : Int32} {t_now_weight : Nat → Int32} {t_now_gain : Nat → Int32} {t_now_joy : Nat → Int32} {t_now_bars : Nat → Int32} {t_now_needs : Nat → Int32} {t_past_setups_pq : Nat → Nat → Nat} {t_past_setups_pi : Nat → Nat → Int32} {t_past_setups_pr : Nat → Nat → Nat → Int32} {Q : Int32 → Int32 → Int32 → Int32 → Int32 → (Nat → Int32) → (Nat → Int32) → (Nat → Int32) → (Nat → Nat → Nat) → (Nat → Nat → Int32) → (Nat → Nat → Nat → Int32) → Prop} {QX : String → Int32 → Int32 → Int32 → Int32 → (Nat → Int32) → (Nat → Int32) → (Nat → Int32) → (Nat → Nat → Nat) → (Nat → Nat → Int32) → (Nat → Nat → Nat → Int32) → Prop} (hP : paP ps t_past_count t_past_setups_pi t_past_setups_pr) (hS : suP s t_now_items t_now_capacity t_now_limit t_now_mustSet t_now_neverSet t_now_hand t_now_weight t_now_gain t_now_joy t_now_bars t_now_needs) (hQ : 0 ≤ p1.toInt ∧ p1.toInt < s 0 → (0 ≤ p2.toInt ∧ p2.toInt ≤ 2) ∧ vl9 p3 → ∀ count w g j pq pi pr, suP (su s (6 + 5 * p1.toInt.toNat + p2.toInt.toNat) p3.toInt.toNat) t_now_items t_now_capacity t_now_limit t_now_mustSet t_now_neverSet t_now_hand w g j t_now_bars t_now_needs → paP (pshL ps s) count pi pr → Q (iI (s (6 + 5 * p1.toInt.toNat + p2.toInt.toNat))) 0 0 0 count w g j pq pi pr)
    (hX : ∀ E, (¬ (0 ≤ p1.toInt ∧ p1.toInt < s 0) ∧ E = "java/lang/IndexOutOfBoundsException") ∨ ((0 ≤ p1.toInt ∧ p1.toInt < s 0) ∧ ¬ ((0 ≤ p2.toInt ∧ p2.toInt ≤ 2) ∧ vl9 p3) ∧ E = "java/lang/IllegalArgumentException") → QX E t_frontierFresh t_searchFresh t_layersFresh t_past_count t_now_weight t_now_gain t_now_joy t_past_setups_pq t_past_setups_pi t_past_setups_pr) : wp_X10_setItem p1 p2 p3 t_frontierFresh t_searchFresh t_layersFresh t_now_items t_now_capacity t_now_limit t_now_mustSet t_now_neverSet t_now_hand t_past_count t_now_weight t_now_gain t_now_joy t_now_bars t_now_needs t_past_setups_pq t_past_setups_pi t_past_setups_pr Q QX := by
  have h12 := hW.1
  unfold wp_X10_setItem
  refine sp_reqItem hW hS.1 (fun a => sp_reqWhat (k := 2) rfl (fun b => sp_reqV (fun c => sp_push hW hl hP hS fun count pq pi pr h => ?_) (fun c => hX _ (Or.inr ⟨a, fun z => c z.2, rfl⟩))) (fun b => hX _ (Or.inr ⟨a, fun z => b z.1, rfl⟩))) (fun a => hX _ (Or.inl ⟨a, rfl⟩))
  obtain ⟨k, hk⟩ : ∃ k : Nat, p1.toInt = k := ⟨p1.toInt.toNat, by omega⟩
  obtain ⟨w, hw⟩ : ∃ w : Nat, p2.toInt = w := ⟨p2.toInt.toNat, by omega⟩
  have ans := fun w g j => hQ a ⟨b, c⟩ count w g j pq pi pr
  rw [hk, hw, Int.toNat_natCast, Int.toNat_natCast] at ans
  have hcl : p1.toNatClampNeg = k := by show p1.toInt.toNat = k; omega
  have hin : vp_in p1 12 := by rw [vp_in_iff]; omega
  have e3 := i_nat c.1
  obtain ⟨q0, q1, q2, q3, q4⟩ := hS.2.2.2.2.2.2 k (by omega)
  rw [i_eqv (p := p2) (v := 0) (k := 0) rfl, i_eqv (p := p2) (v := 1) (k := 1) rfl, hcl, hw]
  refine ⟨fun d => ⟨fun d2 => ⟨hin, fun v hv => ⟨hin, ?_⟩⟩, fun d2 => ⟨hin, fun v hv => ⟨hin, ?_⟩⟩⟩, fun d => ⟨hin, fun v hv => ⟨hin, ?_⟩⟩⟩
  · unfold wp_X10_markChanged
    obtain rfl : w = 2 := by omega
    rw [hv, q2, e3]
    exact ans _ _ _ (suP_r2 hS k _) h
  · unfold wp_X10_markChanged
    obtain rfl : w = 1 := by omega
    rw [hv, q1, e3]
    exact ans _ _ _ (suP_r1 hS k _) h
  · unfold wp_X10_markChanged
    obtain rfl : w = 0 := by omega
    rw [hv, q0, e3]
    exact ans _ _ _ (suP_r0 hS k _) h
/-- a row of items after a bit is turned on both sides -/
abbrev barS (s : Nat → Nat) (i j : Nat) (on : Bool) : Nat → Nat := su (su s (6 + 5 * i + 3) (tb (s (6 + 5 * i + 3)) j on)) (6 + 5 * j + 3) (tb (s (6 + 5 * j + 3)) i on)
abbrev needS (s : Nat → Nat) (i j : Nat) (on : Bool) : Nat → Nat := su s (6 + 5 * i + 4) (tb (s (6 + 5 * i + 4)) j on)
theorem nz01 (c : Prop) [Decidable c] : nzR .boolean (if c then 1 else 0) := nz_if
theorem sq_bar {s : Nat → Nat} (hW : WF s) {ps : List (Nat → Nat)} (hl : ps.length ≤ 8) {p1 : Int32} {p2 : Int32} {p3 : Int32} {t_frontierFresh : Int32} {t_searchFresh : Int32} {t_layersFresh : Int32} {t_now_items : Int32} {t_now_capacity : Int32} {t_now_limit : Int32} {t_now_mustSet : Int32} {t_now_neverSet : Int32} {t_now_hand : Int32} {t_past_count : Int32} {t_now_weight : Nat → Int32} {t_now_gain : Nat → Int32} {t_now_joy : Nat → Int32} {t_now_bars : Nat → Int32} {t_now_needs : Nat → Int32} {t_past_setups_pq : Nat → Nat → Nat} {t_past_setups_pi : Nat → Nat → Int32} {t_past_setups_pr : Nat → Nat → Nat → Int32} {Q : Int32 → Int32 → Int32 → Int32 → Int32 → (Nat → Int32) → (Nat → Nat → Nat) → (Nat → Nat → Int32) → (Nat → Nat → Nat → Int32) → Prop} {QX : String → Int32 → Int32 → Int32 → Int32 → (Nat → Int32) → (Nat → Nat → Nat) → (Nat → Nat → Int32) → (Nat → Nat → Nat → Int32) → Prop} {on : Bool} (hon : p3 = if on = true then 1 else 0) (hP : paP ps t_past_count t_past_setups_pi t_past_setups_pr) (hS : suP s t_now_items t_now_capacity t_now_limit t_now_mustSet t_now_neverSet t_now_hand t_now_weight t_now_gain t_now_joy t_now_bars t_now_needs) (hQ : 0 ≤ p1.toInt ∧ p1.toInt < s 0 → 0 ≤ p2.toInt ∧ p2.toInt < s 0 → p1 ≠ p2 → ∀ count b pq pi pr, suP (barS s p1.toInt.toNat p2.toInt.toNat on) t_now_items t_now_capacity t_now_limit t_now_mustSet t_now_neverSet t_now_hand t_now_weight t_now_gain t_now_joy b t_now_needs → paP (pshL ps s) count pi pr → Q (if (s (6 + 5 * p1.toInt.toNat + 3)).testBit p2.toInt.toNat then 1 else 0) 0 0 0 count b pq pi pr)
    (hX : ∀ E, (¬ ((0 ≤ p1.toInt ∧ p1.toInt < s 0) ∧ (0 ≤ p2.toInt ∧ p2.toInt < s 0)) ∧ E = "java/lang/IndexOutOfBoundsException") ∨ ((0 ≤ p1.toInt ∧ p1.toInt < s 0) ∧ (0 ≤ p2.toInt ∧ p2.toInt < s 0) ∧ p1 = p2 ∧ E = "java/lang/IllegalArgumentException") → QX E t_frontierFresh t_searchFresh t_layersFresh t_past_count t_now_bars t_past_setups_pq t_past_setups_pi t_past_setups_pr) : wp_X10_bar p1 p2 p3 t_frontierFresh t_searchFresh t_layersFresh t_now_items t_now_capacity t_now_limit t_now_mustSet t_now_neverSet t_now_hand t_past_count t_now_weight t_now_gain t_now_joy t_now_bars t_now_needs t_past_setups_pq t_past_setups_pi t_past_setups_pr Q QX := by
  have h12 := hW.1
  have hp := wf_pow hW
  unfold wp_X10_bar
  refine sp_reqTwo hW hS.1 (fun a b c => sp_push hW hl hP hS fun count pq pi pr h => ?_) (fun a => hX _ (Or.inl ⟨a, rfl⟩)) (fun a b c => hX _ (Or.inr ⟨a, b, c, rfl⟩))
  obtain ⟨i, hi⟩ : ∃ k : Nat, p1.toInt = k := ⟨p1.toInt.toNat, by omega⟩
  obtain ⟨j, hj⟩ : ∃ k : Nat, p2.toInt = k := ⟨p2.toInt.toNat, by omega⟩
  have hij : i ≠ j := fun z => c (by rw [iI_of p1, iI_of p2, hi, hj, z])
  have ans := fun b2 => hQ a b c count b2 pq pi pr
  have e1 : p1 = iI (i : Nat) := by rw [iI_of p1, hi]
  have e2 : p2 = iI (j : Nat) := by rw [iI_of p2, hj]
  rw [hi, hj, Int.toNat_natCast, Int.toNat_natCast] at ans
  obtain ⟨q0, q1, q2, q3, q4⟩ := hS.2.2.2.2.2.2 i (by omega)
  have q3j := (hS.2.2.2.2.2.2 j (by omega)).2.2.2.1
  have w3 := (hW.2.2.2.2.2.2 i (by omega)).2.2.2.1
  have w3j := (hW.2.2.2.2.2.2 j (by omega)).2.2.2.1
  subst e1
  subst e2
  have i1 : vp_in (iI (i : Nat)) 12 := in_lit (by omega) (by omega)
  have i2 : vp_in (iI (j : Nat)) 12 := in_lit (by omega) (by omega)
  rw [iI_clN (by omega), iI_clN (z := j) (by omega), q3]
  refine ⟨i1, sp_hasBit (by omega) (by omega) ⟨i1, sp_withBit (by omega) (by omega) hon ⟨i1, i2, ?_⟩⟩⟩
  rw [pk_un (by omega), q3j]
  refine sp_withBit (by omega) (by omega) hon ⟨i2, ?_⟩
  unfold wp_X10_markChanged
  have r1 := suP_r3 hS i (tb (s (6 + 5 * i + 3)) j on)
  have r2 := suP_r3 r1 j (tb (s (6 + 5 * j + 3)) i on)
  exact ⟨nz01 _, ans _ r2 h⟩
theorem sq_need {s : Nat → Nat} (hW : WF s) {ps : List (Nat → Nat)} (hl : ps.length ≤ 8) {p1 : Int32} {p2 : Int32} {p3 : Int32} {t_frontierFresh : Int32} {t_searchFresh : Int32} {t_layersFresh : Int32} {t_now_items : Int32} {t_now_capacity : Int32} {t_now_limit : Int32} {t_now_mustSet : Int32} {t_now_neverSet : Int32} {t_now_hand : Int32} {t_past_count : Int32} {t_now_weight : Nat → Int32} {t_now_gain : Nat → Int32} {t_now_joy : Nat → Int32} {t_now_bars : Nat → Int32} {t_now_needs : Nat → Int32} {t_past_setups_pq : Nat → Nat → Nat} {t_past_setups_pi : Nat → Nat → Int32} {t_past_setups_pr : Nat → Nat → Nat → Int32} {Q : Int32 → Int32 → Int32 → Int32 → Int32 → (Nat → Int32) → (Nat → Nat → Nat) → (Nat → Nat → Int32) → (Nat → Nat → Nat → Int32) → Prop} {QX : String → Int32 → Int32 → Int32 → Int32 → (Nat → Int32) → (Nat → Nat → Nat) → (Nat → Nat → Int32) → (Nat → Nat → Nat → Int32) → Prop} {on : Bool} (hon : p3 = if on = true then 1 else 0) (hP : paP ps t_past_count t_past_setups_pi t_past_setups_pr) (hS : suP s t_now_items t_now_capacity t_now_limit t_now_mustSet t_now_neverSet t_now_hand t_now_weight t_now_gain t_now_joy t_now_bars t_now_needs) (hQ : 0 ≤ p1.toInt ∧ p1.toInt < s 0 → 0 ≤ p2.toInt ∧ p2.toInt < s 0 → p1 ≠ p2 → ∀ count n pq pi pr, suP (needS s p1.toInt.toNat p2.toInt.toNat on) t_now_items t_now_capacity t_now_limit t_now_mustSet t_now_neverSet t_now_hand t_now_weight t_now_gain t_now_joy t_now_bars n → paP (pshL ps s) count pi pr → Q (if (s (6 + 5 * p1.toInt.toNat + 4)).testBit p2.toInt.toNat then 1 else 0) 0 0 0 count n pq pi pr)
    (hX : ∀ E, (¬ ((0 ≤ p1.toInt ∧ p1.toInt < s 0) ∧ (0 ≤ p2.toInt ∧ p2.toInt < s 0)) ∧ E = "java/lang/IndexOutOfBoundsException") ∨ ((0 ≤ p1.toInt ∧ p1.toInt < s 0) ∧ (0 ≤ p2.toInt ∧ p2.toInt < s 0) ∧ p1 = p2 ∧ E = "java/lang/IllegalArgumentException") → QX E t_frontierFresh t_searchFresh t_layersFresh t_past_count t_now_needs t_past_setups_pq t_past_setups_pi t_past_setups_pr) : wp_X10_need p1 p2 p3 t_frontierFresh t_searchFresh t_layersFresh t_now_items t_now_capacity t_now_limit t_now_mustSet t_now_neverSet t_now_hand t_past_count t_now_weight t_now_gain t_now_joy t_now_bars t_now_needs t_past_setups_pq t_past_setups_pi t_past_setups_pr Q QX := by
  have h12 := hW.1
  have hp := wf_pow hW
  unfold wp_X10_need
  refine sp_reqTwo hW hS.1 (fun a b c => sp_push hW hl hP hS fun count pq pi pr h => ?_) (fun a => hX _ (Or.inl ⟨a, rfl⟩)) (fun a b c => hX _ (Or.inr ⟨a, b, c, rfl⟩))
  obtain ⟨i, hi⟩ : ∃ k : Nat, p1.toInt = k := ⟨p1.toInt.toNat, by omega⟩
  obtain ⟨j, hj⟩ : ∃ k : Nat, p2.toInt = k := ⟨p2.toInt.toNat, by omega⟩
  have ans := fun b2 => hQ a b c count b2 pq pi pr
  have e1 : p1 = iI (i : Nat) := by rw [iI_of p1, hi]
  have e2 : p2 = iI (j : Nat) := by rw [iI_of p2, hj]
  rw [hi, hj, Int.toNat_natCast, Int.toNat_natCast] at ans
  obtain ⟨q0, q1, q2, q3, q4⟩ := hS.2.2.2.2.2.2 i (by omega)
  have w4 := (hW.2.2.2.2.2.2 i (by omega)).2.2.2.2
  subst e1
  subst e2
  have i1 : vp_in (iI (i : Nat)) 12 := in_lit (by omega) (by omega)
  rw [iI_clN (by omega), q4]
  refine ⟨i1, sp_hasBit (by omega) (by omega) ⟨i1, sp_withBit (by omega) (by omega) hon ⟨i1, ?_⟩⟩⟩
  unfold wp_X10_markChanged
  exact ⟨nz01 _, ans _ (suP_r4 hS i _) h⟩
theorem sq_must {s : Nat → Nat} (hW : WF s) {ps : List (Nat → Nat)} (hl : ps.length ≤ 8) {p1 : Int32} {p2 : Int32} {t_frontierFresh : Int32} {t_searchFresh : Int32} {t_layersFresh : Int32} {t_now_items : Int32} {t_now_capacity : Int32} {t_now_limit : Int32} {t_now_mustSet : Int32} {t_now_neverSet : Int32} {t_now_hand : Int32} {t_past_count : Int32} {t_now_weight : Nat → Int32} {t_now_gain : Nat → Int32} {t_now_joy : Nat → Int32} {t_now_bars : Nat → Int32} {t_now_needs : Nat → Int32} {t_past_setups_pq : Nat → Nat → Nat} {t_past_setups_pi : Nat → Nat → Int32} {t_past_setups_pr : Nat → Nat → Nat → Int32} {Q : Int32 → Int32 → Int32 → Int32 → Int32 → Int32 → (Nat → Nat → Nat) → (Nat → Nat → Int32) → (Nat → Nat → Nat → Int32) → Prop} {QX : String → Int32 → Int32 → Int32 → Int32 → Int32 → (Nat → Nat → Nat) → (Nat → Nat → Int32) → (Nat → Nat → Nat → Int32) → Prop} {on : Bool} (hon : p2 = if on = true then 1 else 0) (hP : paP ps t_past_count t_past_setups_pi t_past_setups_pr) (hS : suP s t_now_items t_now_capacity t_now_limit t_now_mustSet t_now_neverSet t_now_hand t_now_weight t_now_gain t_now_joy t_now_bars t_now_needs) (hQ : 0 ≤ p1.toInt ∧ p1.toInt < s 0 → ∀ x count pq pi pr, x = iI ((tb (s 3) p1.toInt.toNat on : Nat) : Int) → paP (pshL ps s) count pi pr → Q (if (s 3).testBit p1.toInt.toNat then 1 else 0) 0 0 0 x count pq pi pr)
    (hX : ¬ (0 ≤ p1.toInt ∧ p1.toInt < s 0) → QX "java/lang/IndexOutOfBoundsException" t_frontierFresh t_searchFresh t_layersFresh t_now_mustSet t_past_count t_past_setups_pq t_past_setups_pi t_past_setups_pr) : wp_X10_must p1 p2 t_frontierFresh t_searchFresh t_layersFresh t_now_items t_now_capacity t_now_limit t_now_mustSet t_now_neverSet t_now_hand t_past_count t_now_weight t_now_gain t_now_joy t_now_bars t_now_needs t_past_setups_pq t_past_setups_pi t_past_setups_pr Q QX := by
  have h12 := hW.1
  have hp := wf_pow hW
  have h3 := hW.2.2.2.1
  have h4 := hW.2.2.2.2.1
  unfold wp_X10_must
  refine sp_reqItem hW hS.1 (fun a => sp_push hW hl hP hS fun count pq pi pr h => ?_) (fun a => hX a)
  have ans := fun x => hQ a x count pq pi pr
  obtain ⟨i, hi⟩ : ∃ k : Nat, p1.toInt = k := ⟨p1.toInt.toNat, by omega⟩
  have e1 : p1 = iI (i : Nat) := by rw [iI_of p1, hi]
  rw [hi, Int.toNat_natCast] at ans
  subst e1
  rw [hS.2.2.2.1]
  refine sp_hasBit (by omega) (by omega) (sp_withBit (by omega) (by omega) hon ?_)
  unfold wp_X10_markChanged
  exact ⟨nz01 _, ans _ rfl h⟩
theorem sr_must {s : Nat → Nat} (hW : WF s) {ps : List (Nat → Nat)} (hl : ps.length ≤ 8) (hw : ∀ t ∈ ps, WF t) {p1 : Int32} {p2 : Int32} {t_thrown : Int32} {t_remembered : Int32} {t_net : Nat → Int32} {t_past : Nat → Int32} {Q : Int32 → Int32 → Int32 → (Nat → Int32) → (Nat → Int32) → Prop} {on : Bool} (hon : p2 = if on = true then 1 else 0) (hP : prP ps t_remembered t_past) (hN : neP s t_net) (hQ : 0 ≤ p1.toInt ∧ p1.toInt < s 0 → ∀ rem past net, prP (pshL ps s) rem past → neP (su s 3 (tb (s 3) p1.toInt.toNat on)) net → Q (if (s 3).testBit p1.toInt.toNat then 1 else 0) 0 rem net past) (hX : ¬ (0 ≤ p1.toInt ∧ p1.toInt < s 0) → Q 0 1 t_remembered t_net t_past) : wp_X11_must p1 p2 t_thrown t_remembered t_net t_past Q := by
  have h12 := hW.1
  have hp := wf_pow hW
  have h3 := hW.2.2.2.1
  have h4 := hW.2.2.2.2.1
  unfold wp_X11_must
  refine sp_isItem hW hN (sp_passes ?_)
  by_cases h : 0 ≤ p1.toInt ∧ p1.toInt < s 0
  · rw [if_pos h]
    have ans := hQ h
    obtain ⟨i, hi⟩ : ∃ k : Nat, p1.toInt = k := ⟨p1.toInt.toNat, by omega⟩
    have e1 : p1 = iI (i : Nat) := by rw [iI_of p1, hi]
    rw [hi, Int.toNat_natCast] at ans
    subst e1
    have e3 : (3 : Int32).toNatClampNeg = 3 := by decide
    refine ⟨fun z => absurd z (by decide), fun _ => ⟨by rw [vp_in_iff]; decide, ?_⟩⟩
    rw [e3, hN.1 3 (by omega)]
    refine sp_turned (by omega) (by omega) hon (sr_set hW hl hw hP hN (k := 3) (by omega) (by omega) (iI_lit 3) rfl fun rem past net h1 h2 => sp_has (by omega) (by omega) ?_)
    have := ans rem past net h1 h2
    by_cases c : (s 3).testBit i = true
    · rw [if_pos c] at this ⊢; exact ⟨fun z => absurd z (by decide), fun _ => this⟩
    · rw [if_neg c] at this ⊢; exact ⟨fun _ => this, fun z => absurd rfl z⟩
  · rw [if_neg h]
    exact ⟨fun _ => hX h, fun z => absurd rfl z⟩
theorem sq_never {s : Nat → Nat} (hW : WF s) {ps : List (Nat → Nat)} (hl : ps.length ≤ 8) {p1 : Int32} {p2 : Int32} {t_frontierFresh : Int32} {t_searchFresh : Int32} {t_layersFresh : Int32} {t_now_items : Int32} {t_now_capacity : Int32} {t_now_limit : Int32} {t_now_mustSet : Int32} {t_now_neverSet : Int32} {t_now_hand : Int32} {t_past_count : Int32} {t_now_weight : Nat → Int32} {t_now_gain : Nat → Int32} {t_now_joy : Nat → Int32} {t_now_bars : Nat → Int32} {t_now_needs : Nat → Int32} {t_past_setups_pq : Nat → Nat → Nat} {t_past_setups_pi : Nat → Nat → Int32} {t_past_setups_pr : Nat → Nat → Nat → Int32} {Q : Int32 → Int32 → Int32 → Int32 → Int32 → Int32 → (Nat → Nat → Nat) → (Nat → Nat → Int32) → (Nat → Nat → Nat → Int32) → Prop} {QX : String → Int32 → Int32 → Int32 → Int32 → Int32 → (Nat → Nat → Nat) → (Nat → Nat → Int32) → (Nat → Nat → Nat → Int32) → Prop} {on : Bool} (hon : p2 = if on = true then 1 else 0) (hP : paP ps t_past_count t_past_setups_pi t_past_setups_pr) (hS : suP s t_now_items t_now_capacity t_now_limit t_now_mustSet t_now_neverSet t_now_hand t_now_weight t_now_gain t_now_joy t_now_bars t_now_needs) (hQ : 0 ≤ p1.toInt ∧ p1.toInt < s 0 → ∀ x count pq pi pr, x = iI ((tb (s 4) p1.toInt.toNat on : Nat) : Int) → paP (pshL ps s) count pi pr → Q (if (s 4).testBit p1.toInt.toNat then 1 else 0) 0 0 0 x count pq pi pr)
    (hX : ¬ (0 ≤ p1.toInt ∧ p1.toInt < s 0) → QX "java/lang/IndexOutOfBoundsException" t_frontierFresh t_searchFresh t_layersFresh t_now_neverSet t_past_count t_past_setups_pq t_past_setups_pi t_past_setups_pr) : wp_X10_never p1 p2 t_frontierFresh t_searchFresh t_layersFresh t_now_items t_now_capacity t_now_limit t_now_mustSet t_now_neverSet t_now_hand t_past_count t_now_weight t_now_gain t_now_joy t_now_bars t_now_needs t_past_setups_pq t_past_setups_pi t_past_setups_pr Q QX := by
  have h12 := hW.1
  have hp := wf_pow hW
  have h3 := hW.2.2.2.1
  have h4 := hW.2.2.2.2.1
  unfold wp_X10_never
  refine sp_reqItem hW hS.1 (fun a => sp_push hW hl hP hS fun count pq pi pr h => ?_) (fun a => hX a)
  have ans := fun x => hQ a x count pq pi pr
  obtain ⟨i, hi⟩ : ∃ k : Nat, p1.toInt = k := ⟨p1.toInt.toNat, by omega⟩
  have e1 : p1 = iI (i : Nat) := by rw [iI_of p1, hi]
  rw [hi, Int.toNat_natCast] at ans
  subst e1
  rw [hS.2.2.2.2.1]
  refine sp_hasBit (by omega) (by omega) (sp_withBit (by omega) (by omega) hon ?_)
  unfold wp_X10_markChanged
  exact ⟨nz01 _, ans _ rfl h⟩
theorem sr_never {s : Nat → Nat} (hW : WF s) {ps : List (Nat → Nat)} (hl : ps.length ≤ 8) (hw : ∀ t ∈ ps, WF t) {p1 : Int32} {p2 : Int32} {t_thrown : Int32} {t_remembered : Int32} {t_net : Nat → Int32} {t_past : Nat → Int32} {Q : Int32 → Int32 → Int32 → (Nat → Int32) → (Nat → Int32) → Prop} {on : Bool} (hon : p2 = if on = true then 1 else 0) (hP : prP ps t_remembered t_past) (hN : neP s t_net) (hQ : 0 ≤ p1.toInt ∧ p1.toInt < s 0 → ∀ rem past net, prP (pshL ps s) rem past → neP (su s 4 (tb (s 4) p1.toInt.toNat on)) net → Q (if (s 4).testBit p1.toInt.toNat then 1 else 0) 0 rem net past) (hX : ¬ (0 ≤ p1.toInt ∧ p1.toInt < s 0) → Q 0 1 t_remembered t_net t_past) : wp_X11_never p1 p2 t_thrown t_remembered t_net t_past Q := by
  have h12 := hW.1
  have hp := wf_pow hW
  have h3 := hW.2.2.2.1
  have h4 := hW.2.2.2.2.1
  unfold wp_X11_never
  refine sp_isItem hW hN (sp_passes ?_)
  by_cases h : 0 ≤ p1.toInt ∧ p1.toInt < s 0
  · rw [if_pos h]
    have ans := hQ h
    obtain ⟨i, hi⟩ : ∃ k : Nat, p1.toInt = k := ⟨p1.toInt.toNat, by omega⟩
    have e1 : p1 = iI (i : Nat) := by rw [iI_of p1, hi]
    rw [hi, Int.toNat_natCast] at ans
    subst e1
    have e3 : (4 : Int32).toNatClampNeg = 4 := by decide
    refine ⟨fun z => absurd z (by decide), fun _ => ⟨by rw [vp_in_iff]; decide, ?_⟩⟩
    rw [e3, hN.1 4 (by omega)]
    refine sp_turned (by omega) (by omega) hon (sr_set hW hl hw hP hN (k := 4) (by omega) (by omega) (iI_lit 4) rfl fun rem past net h1 h2 => sp_has (by omega) (by omega) ?_)
    have := ans rem past net h1 h2
    by_cases c : (s 4).testBit i = true
    · rw [if_pos c] at this ⊢; exact ⟨fun z => absurd z (by decide), fun _ => this⟩
    · rw [if_neg c] at this ⊢; exact ⟨fun _ => this, fun z => absurd rfl z⟩
  · rw [if_neg h]
    exact ⟨fun _ => hX h, fun z => absurd rfl z⟩
