/-! RESTORE AND UNDO -/
theorem sq_restore {s : Nat → Nat} (hW : WF s) {ps : List (Nat → Nat)} (hl : ps.length ≤ 8) {K : Nat → Option (Nat → Nat)} (hKW : ∀ k t, K k = some t → WF t) {p1 : Int32} {t_frontierFresh : Int32} {t_searchFresh : Int32} {t_layersFresh : Int32} {t_slotUsed : Nat → Int32} {t_past_count : Int32} {t_now_items : Int32} {t_now_capacity : Int32} {t_now_limit : Int32} {t_now_mustSet : Int32} {t_now_neverSet : Int32} {t_now_hand : Int32} {t_now_weight : Nat → Int32} {t_now_gain : Nat → Int32} {t_now_joy : Nat → Int32} {t_now_bars : Nat → Int32} {t_now_needs : Nat → Int32} {t_past_setups_pq : Nat → Nat → Nat} {t_past_setups_pi : Nat → Nat → Int32} {t_past_setups_pr : Nat → Nat → Nat → Int32} {t_slots_pi : Nat → Nat → Int32} {t_slots_pr : Nat → Nat → Nat → Int32} {Q : Int32 → Int32 → Int32 → Int32 → Int32 → Int32 → Int32 → Int32 → Int32 → Int32 → Int32 → (Nat → Int32) → (Nat → Int32) → (Nat → Int32) → (Nat → Int32) → (Nat → Int32) → (Nat → Nat → Nat) → (Nat → Nat → Int32) → (Nat → Nat → Nat → Int32) → Prop} {QX : String → Int32 → Int32 → Int32 → Int32 → Int32 → Int32 → Int32 → Int32 → Int32 → Int32 → (Nat → Int32) → (Nat → Int32) → (Nat → Int32) → (Nat → Int32) → (Nat → Int32) → (Nat → Nat → Nat) → (Nat → Nat → Int32) → (Nat → Nat → Nat → Int32) → Prop} (hP : paP ps t_past_count t_past_setups_pi t_past_setups_pr) (hK : slC K t_slotUsed t_slots_pi t_slots_pr) (hS : suP s t_now_items t_now_capacity t_now_limit t_now_mustSet t_now_neverSet t_now_hand t_now_weight t_now_gain t_now_joy t_now_bars t_now_needs) (hQ : isl2 p1 → ∀ t, K p1.toInt.toNat = some t → ∀ count items cap lim mus nev hand w g j b n pq pi pr, suP t items cap lim mus nev hand w g j b n → paP (pshL ps s) count pi pr → Q (iI (t 0)) 0 0 0 count items cap lim mus nev hand w g j b n pq pi pr)
    (hX : ∀ E, (¬ isl2 p1 ∧ E = "java/lang/IndexOutOfBoundsException") ∨ (isl2 p1 ∧ K p1.toInt.toNat = none ∧ E = "java/lang/IllegalStateException") → QX E t_frontierFresh t_searchFresh t_layersFresh t_past_count t_now_items t_now_capacity t_now_limit t_now_mustSet t_now_neverSet t_now_hand t_now_weight t_now_gain t_now_joy t_now_bars t_now_needs t_past_setups_pq t_past_setups_pi t_past_setups_pr) : wp_X10_restore p1 t_frontierFresh t_searchFresh t_layersFresh t_slotUsed t_past_count t_now_items t_now_capacity t_now_limit t_now_mustSet t_now_neverSet t_now_hand t_now_weight t_now_gain t_now_joy t_now_bars t_now_needs t_past_setups_pq t_past_setups_pi t_past_setups_pr t_slots_pi t_slots_pr Q QX := by
  unfold wp_X10_restore
  refine sp_reqSlot (fun a => ?_) (fun a => hX _ (Or.inl ⟨a, rfl⟩))
  obtain ⟨k, hk⟩ : ∃ k : Nat, p1.toInt = k := ⟨p1.toInt.toNat, by have := a.1; omega⟩
  have hk2 : k < 2 := by have := a.2; omega
  have ans := hQ a
  have bad := fun z => hX "java/lang/IllegalStateException" (Or.inr ⟨a, z, rfl⟩)
  have e1 : p1 = iI (k : Nat) := by rw [iI_of p1, hk]
  rw [hk, Int.toNat_natCast] at ans bad
  subst e1
  rw [iI_clN (by omega)]
  obtain ⟨z1, z2⟩ := hK k hk2
  refine ⟨in_lit hk2 (by omega), fun c => ?_, fun c => ?_⟩
  · cases hk9 : K k with
    | none => exact absurd (z1 hk9) c
    | some t =>
      obtain ⟨-, ht⟩ := z2 t hk9
      refine sp_push hW hl hP hS fun count pq pi pr h => ⟨k, hk2, (iI_nI _).symm, sp_copyFrom (hKW k t hk9) ht fun items cap lim mus nev hand w g j b n h2 => ?_⟩
      unfold wp_X10_markChanged
      have := ans t hk9 count items cap lim mus nev hand w g j b n pq pi pr h2 h
      rw [← h2.1] at this
      exact this
  · cases hk9 : K k with
    | none => exact bad hk9
    | some t => rw [(z2 t hk9).1] at c; exact absurd c (by decide)
/-- the first x numbers of the row come from place r on -/
def g66 (net f : Nat → Int32) (r x : Nat) : Nat → Int32 := fun j => if j < x then f (66 * r + j) else net j
theorem g66_s {net f : Nat → Int32} {r x : Nat} : upd (g66 net f r x) x (f (66 * r + x)) = g66 net f r (x + 1) := by
  funext j
  by_cases c : j = x
  · rw [c, pk_us]
    unfold g66
    rw [if_pos (by omega)]
  · rw [pk_un c]
    unfold g66
    by_cases d : j < x
    · rw [if_pos d, if_pos (by omega)]
    · rw [if_neg d, if_neg (by omega)]
theorem g66_0 {net f : Nat → Int32} {r : Nat} : g66 net f r 0 = net := by
  funext j
  unfold g66
  rw [if_neg (by omega)]
theorem neP_g66 {t : Nat → Nat} (hW : t 0 ≤ 12) {net f : Nat → Int32} {r : Nat} (h : neP t (fun x => f (66 * r + x))) : neP t (g66 net f r 66) := by
  have e : ∀ x, x < 66 → g66 net f r 66 x = f (66 * r + x) := fun x hx => by unfold g66; rw [if_pos hx]
  refine ⟨fun x hx => ?_, fun x w hx hw => ?_⟩
  · rw [e x (by omega)]; exact h.1 x hx
  · rw [e _ (by omega)]; exact h.2 x w hx hw
theorem sl_rest40 {t_isKept : Nat → Int32} {t_slots : Nat → Int32} {x1 : Int32} {t_thrown : Int32} {t_remembered : Int32} {t_past : Nat → Int32} {Q : Int32 → Int32 → Int32 → (Nat → Int32) → (Nat → Int32) → Prop} {r : Nat} (hr : r < 2) (h1 : x1 = iI (r : Nat)) {f : Nat → Int32} {t : Nat → Nat} (hN : neP t (g66 f t_slots r 66)) (hQ : Q (iI (t 0)) t_thrown t_remembered t_past (g66 f t_slots r 66)) : ∀ (d x : Nat), x + d = 66 → wp_X11_restore_L40 t_isKept t_slots x1 t_thrown t_remembered t_past Q (d + 1) (iI (x : Nat)) (g66 f t_slots r x) := by
  subst h1
  intro d
  induction d with
  | zero =>
    intro x hx
    unfold wp_X11_restore_L40
    obtain rfl : x = 66 := by omega
    exact ⟨fun _ => sp_many hN hQ, fun z => absurd (by decide) z⟩
  | succ d ih =>
    intro x hx
    have nx := ih (x + 1) (by omega)
    unfold wp_X11_restore_L40
    have e : (66 : Int32) * iI (r : Nat) + iI (x : Nat) = iI ((66 * r + x : Nat) : Int) := by rw [iI_lit 66, iI_mul, iI_add]; congr 1
    rw [e, iI_lit 66, iI_le (by omega) (by omega) (by omega) (by omega), iI_succ, iI_clN (z := 66 * r + x) (by omega), iI_clN (z := x) (by omega), g66_s]
    exact ⟨fun z => absurd z (by omega), fun _ => ⟨in_lit (by omega) (by omega), in_lit (by omega) (by omega), nx⟩⟩
theorem sr_restore {s : Nat → Nat} (hW : WF s) {ps : List (Nat → Nat)} (hl : ps.length ≤ 8) (hw : ∀ t ∈ ps, WF t) {K : Nat → Option (Nat → Nat)} (hKW : ∀ k t, K k = some t → WF t) {p1 : Int32} {t_thrown : Int32} {t_remembered : Int32} {t_isKept : Nat → Int32} {t_past : Nat → Int32} {t_net : Nat → Int32} {t_slots : Nat → Int32} {Q : Int32 → Int32 → Int32 → (Nat → Int32) → (Nat → Int32) → Prop} (hP : prP ps t_remembered t_past) (hK : slR K t_isKept t_slots) (hN : neP s t_net) (hQ : isl2 p1 → ∀ t, K p1.toInt.toNat = some t → ∀ rem past net, prP (pshL ps s) rem past → neP t net → Q (iI (t 0)) 0 rem past net)
    (hX : ∀ c : Int32, (¬ isl2 p1 ∧ c = 1) ∨ (isl2 p1 ∧ K p1.toInt.toNat = none ∧ c = 2) → Q 0 c t_remembered t_past t_net) : wp_X11_restore p1 t_thrown t_remembered t_isKept t_past t_net t_slots Q := by
  unfold wp_X11_restore
  refine sp_isSlot (sp_isSlot ?_)
  by_cases a : isl2 p1
  · simp only [if_pos a]
    obtain ⟨k, hk⟩ : ∃ k : Nat, p1.toInt = k := ⟨p1.toInt.toNat, by have := a.1; omega⟩
    have hk2 : k < 2 := by have := a.2; omega
    have ans := hQ a
    have bad := fun z => hX 2 (Or.inr ⟨a, z, rfl⟩)
    have e1 : p1 = iI (k : Nat) := by rw [iI_of p1, hk]
    rw [hk, Int.toNat_natCast] at ans bad
    subst e1
    rw [iI_clN (by omega)]
    obtain ⟨z1, z2⟩ := hK k hk2
    refine ⟨fun z => absurd z (by decide), fun _ => ⟨in_lit hk2 (by omega), fun c => ?_, fun c => ?_⟩⟩
    · cases hk9 : K k with
      | none => exact sp_passes2 (a := True) (b := False) ⟨fun z => absurd rfl z, fun _ => bad hk9⟩
      | some t => rw [(z2 t hk9).1] at c; exact absurd c (by decide)
    · cases hk9 : K k with
      | none => exact absurd (z1 hk9) c
      | some t =>
        refine sp_passes2 (a := True) (b := True) ⟨fun _ => sr_remember hW hl hw hP hN fun rem past h => ⟨67, ?_⟩, fun z => absurd z (by decide)⟩
        have hN2 := neP_g66 (hKW k t hk9).1 (net := t_net) (z2 t hk9).2
        have := sl_rest40 (t_isKept := t_isKept) (t_slots := t_slots) (x1 := iI (k : Nat)) (t_thrown := 0) (t_remembered := rem) (t_past := past) (Q := Q) (r := k) hk2 rfl (f := t_net) (t := t) hN2 (ans t hk9 rem past _ h hN2) 66 0 rfl
        rw [g66_0] at this
        rw [iI_lit 0]
        exact this
  · simp only [if_neg a]
    exact ⟨fun _ => sp_passes2 (a := False) (b := True) ⟨fun z => absurd rfl z, fun _ => hX 1 (Or.inl ⟨a, rfl⟩)⟩, fun z => (z trivial).elim⟩
theorem sq_undo {ps : List (Nat → Nat)} (hw : ∀ t ∈ ps, WF t) (hl : ps.length ≤ 8) {t_frontierFresh : Int32} {t_searchFresh : Int32} {t_layersFresh : Int32} {t_past_count : Int32} {t_now_items : Int32} {t_now_capacity : Int32} {t_now_limit : Int32} {t_now_mustSet : Int32} {t_now_neverSet : Int32} {t_now_hand : Int32} {t_now_weight : Nat → Int32} {t_now_gain : Nat → Int32} {t_now_joy : Nat → Int32} {t_now_bars : Nat → Int32} {t_now_needs : Nat → Int32} {t_past_setups_pi : Nat → Nat → Int32} {t_past_setups_pr : Nat → Nat → Nat → Int32} {Q : Int32 → Int32 → Int32 → Int32 → Int32 → Int32 → Int32 → Int32 → Int32 → Int32 → Int32 → (Nat → Int32) → (Nat → Int32) → (Nat → Int32) → (Nat → Int32) → (Nat → Int32) → Prop} {QX : String → Int32 → Int32 → Int32 → Int32 → Int32 → Int32 → Int32 → Int32 → Int32 → Int32 → (Nat → Int32) → (Nat → Int32) → (Nat → Int32) → (Nat → Int32) → (Nat → Int32) → Prop} (hP : paP ps t_past_count t_past_setups_pi t_past_setups_pr) (hQ : ∀ qs t, ps = qs ++ [t] → ∀ items cap lim mus nev hand w g j b n, suP t items cap lim mus nev hand w g j b n → paP qs (iI (qs.length : Nat)) t_past_setups_pi t_past_setups_pr → Q (iI (qs.length : Nat)) 0 0 0 (iI (qs.length : Nat)) items cap lim mus nev hand w g j b n) (hX : ps = [] → QX "java/lang/IllegalStateException" t_frontierFresh t_searchFresh t_layersFresh t_past_count t_now_items t_now_capacity t_now_limit t_now_mustSet t_now_neverSet t_now_hand t_now_weight t_now_gain t_now_joy t_now_bars t_now_needs) : wp_X10_undo t_frontierFresh t_searchFresh t_layersFresh t_past_count t_now_items t_now_capacity t_now_limit t_now_mustSet t_now_neverSet t_now_hand t_now_weight t_now_gain t_now_joy t_now_bars t_now_needs t_past_setups_pi t_past_setups_pr Q QX := by
  unfold wp_X10_undo
  have e : 0 < t_past_count ↔ 0 < ps.length := by rw [hP.1, iI_lit 0, iI_lt (by omega) (by omega) (by omega) (by omega)]; omega
  rw [e]
  refine ⟨fun c => ?_, fun c => hX (List.length_eq_zero_iff.mp (by omega))⟩
  obtain ⟨qs, t, hq⟩ : ∃ qs t, ps = qs ++ [t] := ⟨ps.dropLast, ps.getLast (List.length_pos_iff.mp c), (List.dropLast_concat_getLast _).symm⟩
  refine sp_pop hw hl hP hq fun items cap lim mus nev hand w g j b n h1 h2 => ?_
  unfold wp_X10_markChanged
  exact hQ qs t hq items cap lim mus nev hand w g j b n h1 h2
theorem sl_undo33 {t_past : Nat → Int32} {t_thrown : Int32} {t_remembered : Int32} {Q : Int32 → Int32 → Int32 → (Nat → Int32) → Prop} {r : Nat} (hr : r < 8) (h1 : t_remembered = iI (r : Nat)) {f : Nat → Int32} (hQ : Q (iI (r : Nat)) t_thrown (iI (r : Nat)) (g66 f t_past r 66)) : ∀ (d x : Nat), x + d = 66 → wp_X11_undo_L33 t_past t_thrown t_remembered Q (d + 1) (iI (x : Nat)) (g66 f t_past r x) := by
  subst h1
  intro d
  induction d with
  | zero =>
    intro x hx
    unfold wp_X11_undo_L33
    obtain rfl : x = 66 := by omega
    exact ⟨fun _ => hQ, fun z => absurd (by decide) z⟩
  | succ d ih =>
    intro x hx
    have nx := ih (x + 1) (by omega)
    unfold wp_X11_undo_L33
    have e : (66 : Int32) * iI (r : Nat) + iI (x : Nat) = iI ((66 * r + x : Nat) : Int) := by rw [iI_lit 66, iI_mul, iI_add]; congr 1
    rw [e, iI_lit 66, iI_le (by omega) (by omega) (by omega) (by omega), iI_succ, iI_clN (z := 66 * r + x) (by omega), iI_clN (z := x) (by omega), g66_s]
    exact ⟨fun z => absurd z (by omega), fun _ => ⟨in_lit (by omega) (by omega), in_lit (by omega) (by omega), nx⟩⟩
theorem sr_undo {ps : List (Nat → Nat)} (hw : ∀ t ∈ ps, WF t) (hl : ps.length ≤ 8) {t_thrown : Int32} {t_remembered : Int32} {t_past : Nat → Int32} {t_net : Nat → Int32} {Q : Int32 → Int32 → Int32 → (Nat → Int32) → Prop} (hP : prP ps t_remembered t_past) (hQ : ∀ qs t, ps = qs ++ [t] → ∀ net, neP t net → prP qs (iI (qs.length : Nat)) t_past → Q (iI (qs.length : Nat)) 0 (iI (qs.length : Nat)) net) (hX : ps = [] → Q 0 1 t_remembered t_net) : wp_X11_undo t_thrown t_remembered t_past t_net Q := by
  unfold wp_X11_undo
  have e : t_remembered ≤ 0 ↔ ps.length ≤ 0 := by rw [hP.1, iI_lit 0, iI_le (by omega) (by omega) (by omega) (by omega)]; omega
  rw [e]
  refine ⟨fun c => sp_passes (a := False) ⟨fun z => absurd rfl z, fun _ => hX (List.length_eq_zero_iff.mp (by omega))⟩, fun c => sp_passes (a := True) ⟨fun _ => ⟨67, ?_⟩, fun z => absurd z (by decide)⟩⟩
  obtain ⟨qs, t, hq⟩ : ∃ qs t, ps = qs ++ [t] := ⟨ps.dropLast, ps.getLast (List.length_pos_iff.mp (by omega)), (List.dropLast_concat_getLast _).symm⟩
  have ans := hQ qs t hq
  subst hq
  rw [List.length_append, List.length_cons, List.length_nil] at hl
  have er : t_remembered - 1 = iI (qs.length : Nat) := by rw [hP.1, List.length_append, List.length_cons, List.length_nil, iI_lit 1, iI_sub]; congr 1; omega
  have ht := hP.2 qs.length t (by rw [List.getElem?_append_right (Nat.le_refl _), Nat.sub_self]; rfl)
  have hN2 := neP_g66 (hw t (by simp)).1 (net := t_net) ht
  have hp2 : prP qs (iI (qs.length : Nat)) t_past := ⟨rfl, fun k u hk => hP.2 k u (by rw [List.getElem?_append_left (List.getElem?_eq_some_iff.mp hk).1]; exact hk)⟩
  have := sl_undo33 (t_past := t_past) (t_thrown := 0) (t_remembered := t_remembered - 1) (Q := Q) (r := qs.length) (by omega) er (f := t_net) (ans _ hN2 hp2) 66 0 rfl
  rw [g66_0] at this
  rw [iI_lit 0]
  exact this
