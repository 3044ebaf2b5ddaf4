/-! WHAT CAN BE UNDONE: a list of setups, the oldest first -/
abbrev SU (t : Nat → Nat) (a : Nat → Int32) (b : Nat → Nat → Int32) : Prop := suP t (a 0) (a 1) (a 2) (a 3) (a 4) (a 5) (b 0) (b 1) (b 2) (b 3) (b 4)
/-- the class's row of setups holds the list -/
def paP (ps : List (Nat → Nat)) (count : Int32) (pi : Nat → Nat → Int32) (pr : Nat → Nat → Nat → Int32) : Prop := count = iI (ps.length : Nat) ∧ ∀ k t, ps[k]? = some t → SU t (pi k) (pr k)
/-- the reference's row does -/
def prP (ps : List (Nat → Nat)) (rem : Int32) (past : Nat → Int32) : Prop := rem = iI (ps.length : Nat) ∧ ∀ k t, ps[k]? = some t → neP t (fun i => past (66 * k + i))
def pshL (ps : List (Nat → Nat)) (s : Nat → Nat) : List (Nat → Nat) := (if ps.length = 8 then ps.tail else ps) ++ [s]
theorem pshL_le {ps : List (Nat → Nat)} {s : Nat → Nat} (h : ps.length ≤ 8) : (pshL ps s).length ≤ 8 := by
  unfold pshL
  rw [List.length_append]
  split
  · rw [List.length_tail]; simp only [List.length_cons, List.length_nil]; omega
  · simp only [List.length_cons, List.length_nil]; omega
theorem pshL_all {P : (Nat → Nat) → Prop} {ps : List (Nat → Nat)} {s : Nat → Nat} (h : ∀ t ∈ ps, P t) (hs : P s) : ∀ t ∈ pshL ps s, P t := by
  intro t ht
  unfold pshL at ht
  rcases List.mem_append.mp ht with h1 | h1
  · by_cases c : ps.length = 8
    · rw [if_pos c] at h1; exact h t (List.mem_of_mem_tail h1)
    · rw [if_neg c] at h1; exact h t h1
  · rw [List.mem_singleton.mp h1]; exact hs
theorem famT_lt {α : Type} {f : Nat → α} {k : Nat} (h : k < 7) : famT f k = f (k + 1) := by
  rcases (show k = 0 ∨ k = 1 ∨ k = 2 ∨ k = 3 ∨ k = 4 ∨ k = 5 ∨ k = 6 by omega) with rfl | rfl | rfl | rfl | rfl | rfl | rfl <;> rfl
theorem famU_ne {α : Type} {f : Nat → α} {k i : Nat} {v : α} (h : i ≠ k) : famU k v f i = f i := if_neg h
theorem famU_eq {α : Type} {f : Nat → α} {k : Nat} {v : α} : famU k v f k = v := if_pos rfl
theorem pa_snoc {ps : List (Nat → Nat)} {s : Nat → Nat} {pi : Nat → Nat → Int32} {pr : Nat → Nat → Nat → Int32} (h : ∀ k t, ps[k]? = some t → SU t (pi k) (pr k)) {a : Nat → Int32} {b : Nat → Nat → Int32} (hs : SU s a b) : ∀ k t, (ps ++ [s])[k]? = some t → SU t (famU ps.length a pi k) (famU ps.length b pr k) := by
  intro k t hk
  by_cases c : k < ps.length
  · rw [List.getElem?_append_left c] at hk
    rw [famU_ne (by omega), famU_ne (by omega)]
    exact h k t hk
  · have hlt := (List.getElem?_eq_some_iff.mp hk).1
    rw [List.length_append, List.length_cons, List.length_nil] at hlt
    obtain rfl : k = ps.length := by omega
    rw [List.getElem?_append_right (Nat.le_refl _), Nat.sub_self] at hk
    obtain rfl := Option.some.inj hk
    rw [famU_eq, famU_eq]
    exact hs
theorem sp_pushB {s : Nat → Nat} (hW : WF s) {ps : List (Nat → Nat)} (hl : ps.length < 8) {t1_items : Int32} {t1_capacity : Int32} {t1_limit : Int32} {t1_mustSet : Int32} {t1_neverSet : Int32} {t1_hand : Int32} {t1_weight : Nat → Int32} {t1_gain : Nat → Int32} {t1_joy : Nat → Int32} {t1_bars : Nat → Int32} {t1_needs : Nat → Int32} {Q : Int32 → (Nat → Nat → Nat) → (Nat → Nat → Int32) → (Nat → Nat → Nat → Int32) → Prop} {t_count : Int32} {t_setups_pq : Nat → Nat → Nat} {t_setups_pi : Nat → Nat → Int32} {t_setups_pr : Nat → Nat → Nat → Int32} (hP : paP ps t_count t_setups_pi t_setups_pr) (hS : suP s t1_items t1_capacity t1_limit t1_mustSet t1_neverSet t1_hand t1_weight t1_gain t1_joy t1_bars t1_needs) (hQ : ∀ count pq pi pr, paP (ps ++ [s]) count pi pr → Q count pq pi pr) : wp_X6_push_b13 t1_items t1_capacity t1_limit t1_mustSet t1_neverSet t1_hand t1_weight t1_gain t1_joy t1_bars t1_needs Q t_count t_setups_pq t_setups_pi t_setups_pr := by
  unfold wp_X6_push_b13
  refine ⟨ps.length, hl, by rw [hP.1]; exact (iI_nI _).symm, sp_copyFrom hW hS fun items cap lim mus nev hand w g j b n h => hQ _ _ _ _ ⟨?_, ?_⟩⟩
  · rw [hP.1, iI_succ, List.length_append]; rfl
  · exact pa_snoc hP.2 h
theorem sp_push {s : Nat → Nat} (hW : WF s) {ps : List (Nat → Nat)} (hl : ps.length ≤ 8) {t_count : Int32} {t1_items : Int32} {t1_capacity : Int32} {t1_limit : Int32} {t1_mustSet : Int32} {t1_neverSet : Int32} {t1_hand : Int32} {t1_weight : Nat → Int32} {t1_gain : Nat → Int32} {t1_joy : Nat → Int32} {t1_bars : Nat → Int32} {t1_needs : Nat → Int32} {t_setups_pq : Nat → Nat → Nat} {t_setups_pi : Nat → Nat → Int32} {t_setups_pr : Nat → Nat → Nat → Int32} {Q : Int32 → (Nat → Nat → Nat) → (Nat → Nat → Int32) → (Nat → Nat → Nat → Int32) → Prop} (hP : paP ps t_count t_setups_pi t_setups_pr) (hS : suP s t1_items t1_capacity t1_limit t1_mustSet t1_neverSet t1_hand t1_weight t1_gain t1_joy t1_bars t1_needs) (hQ : ∀ count pq pi pr, paP (pshL ps s) count pi pr → Q count pq pi pr) : wp_X6_push t_count t1_items t1_capacity t1_limit t1_mustSet t1_neverSet t1_hand t1_weight t1_gain t1_joy t1_bars t1_needs t_setups_pq t_setups_pi t_setups_pr Q := by
  unfold wp_X6_push
  unfold pshL at hQ
  have e : t_count < 8 ↔ ps.length < 8 := by rw [hP.1, iI_lit 8, iI_lt (by omega) (by omega) (by omega) (by omega)]; omega
  rw [e]
  refine ⟨fun c => ?_, fun c => ?_⟩
  · rw [if_neg (by omega)] at hQ
    exact sp_pushB hW c hP hS hQ
  · have c8 : ps.length = 8 := by omega
    rw [if_pos c8] at hQ
    unfold wp_X6_forgetOldest
    refine sp_pushB (ps := ps.tail) hW (by rw [List.length_tail]; omega) ⟨?_, fun k t hk => ?_⟩ hS hQ
    · rw [List.length_tail, c8]; exact iI_lit 7
    · have hlt := (List.getElem?_eq_some_iff.mp hk).1
      rw [List.length_tail] at hlt
      rw [List.getElem?_tail] at hk
      rw [famT_lt (by omega), famT_lt (by omega)]
      exact hP.2 (k + 1) t hk
theorem sp_pop {ps : List (Nat → Nat)} (hw : ∀ t ∈ ps, WF t) (hl : ps.length ≤ 8) {t_count : Int32} {t1_items : Int32} {t1_capacity : Int32} {t1_limit : Int32} {t1_mustSet : Int32} {t1_neverSet : Int32} {t1_hand : Int32} {t1_weight : Nat → Int32} {t1_gain : Nat → Int32} {t1_joy : Nat → Int32} {t1_bars : Nat → Int32} {t1_needs : Nat → Int32} {t_setups_pi : Nat → Nat → Int32} {t_setups_pr : Nat → Nat → Nat → Int32} {Q : Int32 → Int32 → Int32 → Int32 → Int32 → Int32 → Int32 → (Nat → Int32) → (Nat → Int32) → (Nat → Int32) → (Nat → Int32) → (Nat → Int32) → Prop} (hP : paP ps t_count t_setups_pi t_setups_pr) {t : Nat → Nat} {qs : List (Nat → Nat)} (ht : ps = qs ++ [t]) (hQ : ∀ items cap lim mus nev hand w g j b n, suP t items cap lim mus nev hand w g j b n → paP qs (iI (qs.length : Nat)) t_setups_pi t_setups_pr → Q (iI (qs.length : Nat)) items cap lim mus nev hand w g j b n) : wp_X6_pop t_count t1_items t1_capacity t1_limit t1_mustSet t1_neverSet t1_hand t1_weight t1_gain t1_joy t1_bars t1_needs t_setups_pi t_setups_pr Q := by
  subst ht
  unfold wp_X6_pop
  rw [List.length_append, List.length_cons, List.length_nil] at hl
  have e0 : t_count = iI ((qs.length + 1 : Nat) : Int) := by rw [hP.1, List.length_append]; rfl
  have e1 : t_count - 1 = iI (qs.length : Nat) := by rw [e0, iI_lit 1, iI_sub]; congr 1; omega
  have e2 : t_count ≤ 0 ↔ qs.length + 1 ≤ 0 := by rw [e0, iI_lit 0, iI_le (by omega) (by omega) (by omega) (by omega)]; omega
  have hs := hP.2 qs.length t (by rw [List.getElem?_append_right (Nat.le_refl _), Nat.sub_self]; rfl)
  rw [e2, e1]
  refine ⟨fun c => absurd c (by omega), fun _ => ⟨qs.length, by omega, (iI_nI _).symm, sp_copyFrom (hw t (by simp)) hs fun items cap lim mus nev hand w g j b n h => hQ _ _ _ _ _ _ _ _ _ _ _ h ⟨rfl, fun k u hk => hP.2 k u ?_⟩⟩⟩
  rw [List.getElem?_append_left (List.getElem?_eq_some_iff.mp hk).1]
  exact hk
/-! the reference's -/
/-- the row moved down by one setup, as far as place x -/
def s66 (f : Nat → Int32) (x : Nat) : Nat → Int32 := fun j => if j + 66 < x then f (j + 66) else f j
theorem s66_s {f : Nat → Int32} {x : Nat} (h : 66 ≤ x) : upd (s66 f x) (x - 66) (s66 f x x) = s66 f (x + 1) := by
  funext j
  by_cases c : j = x - 66
  · rw [c, pk_us]
    unfold s66
    rw [if_neg (by omega), if_pos (by omega), show x - 66 + 66 = x by omega]
  · rw [pk_un c]
    unfold s66
    by_cases d : j + 66 < x
    · rw [if_pos d, if_pos (by omega)]
    · rw [if_neg d, if_neg (by omega)]
theorem s66_0 {f : Nat → Int32} : s66 f 66 = f := by
  funext j
  unfold s66
  rw [if_neg (by omega)]
theorem sl_rem12 {t_net : Nat → Int32} {t_remembered : Int32} {k40 : (Nat → Int32) → Prop} {Q : Int32 → (Nat → Int32) → Prop} {f : Nat → Int32} (hk : k40 (s66 f 528)) : ∀ (d x : Nat), x + d = 528 → 66 ≤ x → wp_X11_remember_L12 t_net t_remembered k40 Q (d + 1) (iI (x : Nat)) (s66 f x) := by
  intro d
  induction d with
  | zero =>
    intro x hx h6
    unfold wp_X11_remember_L12
    obtain rfl : x = 528 := by omega
    exact ⟨fun _ => hk, fun z => absurd (by decide) z⟩
  | succ d ih =>
    intro x hx h6
    have nx := ih (x + 1) (by omega) (by omega)
    unfold wp_X11_remember_L12
    have e : iI (x : Nat) - 66 = iI ((x - 66 : Nat) : Int) := by rw [iI_lit 66, iI_sub]; congr 1; omega
    rw [e, iI_lit 528, iI_le (by omega) (by omega) (by omega) (by omega), iI_succ, iI_clN (by omega), iI_clN (z := x) (by omega), s66_s h6]
    exact ⟨fun z => absurd z (by omega), fun _ => ⟨in_lit (by omega) (by omega), in_lit (by omega) (by omega), nx⟩⟩
/-- the first x numbers of the row lie at setup r -/
def c66 (net f : Nat → Int32) (r x : Nat) : Nat → Int32 := fun j => if 66 * r ≤ j ∧ j < 66 * r + x then net (j - 66 * r) else f j
theorem c66_s {net f : Nat → Int32} {r x : Nat} : upd (c66 net f r x) (66 * r + x) (net x) = c66 net f r (x + 1) := by
  funext j
  by_cases c : j = 66 * r + x
  · rw [c, pk_us]
    unfold c66
    rw [if_pos (by omega), show 66 * r + x - 66 * r = x by omega]
  · rw [pk_un c]
    unfold c66
    by_cases d : 66 * r ≤ j ∧ j < 66 * r + x
    · rw [if_pos d, if_pos (by omega)]
    · rw [if_neg d, if_neg (by omega)]
theorem c66_0 {net f : Nat → Int32} {r : Nat} : c66 net f r 0 = f := by
  funext j
  unfold c66
  rw [if_neg (by omega)]
theorem sl_rem52 {t_net : Nat → Int32} {t_remembered : Int32} {Q : Int32 → (Nat → Int32) → Prop} {r : Nat} (hr : r < 8) (hrm : t_remembered = iI (r : Nat)) {f : Nat → Int32} (hQ : Q (iI ((r + 1 : Nat) : Int)) (c66 t_net f r 66)) : ∀ (d x : Nat), x + d = 66 → wp_X11_remember_L52 t_net t_remembered Q (d + 1) (iI (x : Nat)) (c66 t_net f r x) := by
  intro d
  induction d with
  | zero =>
    intro x hx
    unfold wp_X11_remember_L52
    obtain rfl : x = 66 := by omega
    rw [hrm, iI_succ]
    exact ⟨fun _ => hQ, fun z => absurd (by decide) z⟩
  | succ d ih =>
    intro x hx
    have nx := ih (x + 1) (by omega)
    unfold wp_X11_remember_L52
    have e : (66 : Int32) * t_remembered + iI (x : Nat) = iI ((66 * r + x : Nat) : Int) := by rw [hrm, iI_lit 66, iI_mul, iI_add]; congr 1
    rw [e, iI_lit 66, iI_le (by omega) (by omega) (by omega) (by omega), iI_succ, iI_clN (z := 66 * r + x) (by omega), iI_clN (z := x) (by omega), c66_s]
    exact ⟨fun z => absurd z (by omega), fun _ => ⟨in_lit (by omega) (by omega), in_lit (by omega) (by omega), nx⟩⟩
theorem pr_snoc {ps : List (Nat → Nat)} {s : Nat → Nat} {f net : Nat → Int32} (h : ∀ k t, ps[k]? = some t → neP t (fun i => f (66 * k + i))) (hN : neP s net) (hW : s 0 ≤ 12) (hW2 : ∀ t ∈ ps, WF t) : ∀ k t, (ps ++ [s])[k]? = some t → neP t (fun i => c66 net f ps.length 66 (66 * k + i)) := by
  intro k t hk
  by_cases c : k < ps.length
  · rw [List.getElem?_append_left c] at hk
    have ht := (hW2 t (List.mem_of_getElem? hk)).1
    have e : ∀ i, i < 66 → c66 net f ps.length 66 (66 * k + i) = f (66 * k + i) := fun i hi => by unfold c66; rw [if_neg (by omega)]
    obtain ⟨a1, a2⟩ := h k t hk
    refine ⟨fun i hi => ?_, fun i w hi hw => ?_⟩
    · show c66 net f ps.length 66 (66 * k + i) = _
      rw [e i (by omega)]; exact a1 i hi
    · show c66 net f ps.length 66 (66 * k + (6 + 5 * i + w)) = _
      rw [e _ (by omega)]; exact a2 i w hi hw
  · have hlt := (List.getElem?_eq_some_iff.mp hk).1
    rw [List.length_append, List.length_cons, List.length_nil] at hlt
    obtain rfl : k = ps.length := by omega
    rw [List.getElem?_append_right (Nat.le_refl _), Nat.sub_self] at hk
    obtain rfl := Option.some.inj hk
    have e : ∀ i, i < 66 → c66 net f ps.length 66 (66 * ps.length + i) = net i := fun i hi => by unfold c66; rw [if_pos (by omega), show 66 * ps.length + i - 66 * ps.length = i by omega]
    refine ⟨fun i hi => ?_, fun i w hi hw => ?_⟩
    · show c66 net f ps.length 66 (66 * ps.length + i) = _
      rw [e i (by omega)]; exact hN.1 i hi
    · show c66 net f ps.length 66 (66 * ps.length + (6 + 5 * i + w)) = _
      rw [e _ (by omega)]; exact hN.2 i w hi hw
theorem sr_remember {s : Nat → Nat} (hW : WF s) {ps : List (Nat → Nat)} (hl : ps.length ≤ 8) (hw : ∀ t ∈ ps, WF t) {t_remembered : Int32} {t_past : Nat → Int32} {t_net : Nat → Int32} {Q : Int32 → (Nat → Int32) → Prop} (hP : prP ps t_remembered t_past) (hN : neP s t_net) (hQ : ∀ rem past, prP (pshL ps s) rem past → Q rem past) : wp_X11_remember t_remembered t_past t_net Q := by
  unfold wp_X11_remember
  unfold pshL at hQ
  have e : t_remembered = 8 ↔ ps.length = 8 := by rw [hP.1, iI_lit 8, iI_eq (by omega) (by omega) (by omega) (by omega)]; omega
  rw [e]
  refine ⟨fun c => ⟨67, ?_⟩, fun c => ⟨463, ?_⟩⟩
  · rw [if_neg c] at hQ
    have := sl_rem52 (t_net := t_net) (f := t_past) (r := ps.length) (by omega) hP.1 (hQ _ _ ⟨by rw [List.length_append]; rfl, pr_snoc hP.2 hN hW.1 hw⟩) 66 0 rfl
    rw [c66_0] at this
    rw [show (0 : Int32) = iI ((0 : Nat) : Int) from iI_lit 0]
    exact this
  · rw [if_pos c] at hQ
    have z : ∃ n52, wp_X11_remember_L52 t_net (t_remembered - 1) Q n52 0 (s66 t_past 528) := by
      refine ⟨67, ?_⟩
      have e7 : t_remembered - 1 = iI ((ps.tail.length : Nat) : Int) := by rw [hP.1, List.length_tail, iI_lit 1, iI_sub]; congr 1; omega
      have := sl_rem52 (t_net := t_net) (f := s66 t_past 528) (r := ps.tail.length) (by rw [List.length_tail]; omega) e7 (hQ _ _ ⟨by rw [List.length_append]; rfl, pr_snoc (fun k t hk => ?_) hN hW.1 (fun t ht => hw t (List.mem_of_mem_tail ht))⟩) 66 0 rfl
      · rw [c66_0] at this
        rw [show (0 : Int32) = iI ((0 : Nat) : Int) from iI_lit 0]
        exact this
      · have hlt := (List.getElem?_eq_some_iff.mp hk).1
        rw [List.length_tail] at hlt
        rw [List.getElem?_tail] at hk
        obtain ⟨a1, a2⟩ := hP.2 (k + 1) t hk
        have ht := (hw t (List.mem_of_getElem? hk)).1
        have e : ∀ i, i < 66 → s66 t_past 528 (66 * k + i) = t_past (66 * (k + 1) + i) := fun i hi => by
          unfold s66
          rw [if_pos (by omega)]
          congr 1
          omega
        refine ⟨fun i hi => ?_, fun i w hi hw => ?_⟩
        · show s66 t_past 528 (66 * k + i) = _
          rw [e i (by omega)]; exact a1 i hi
        · show s66 t_past 528 (66 * k + (6 + 5 * i + w)) = _
          rw [e _ (by omega)]; exact a2 i w hi hw
    have := sl_rem12 (t_net := t_net) (t_remembered := t_remembered) (Q := Q) (f := t_past) (k40 := fun t_past => ∃ n52, wp_X11_remember_L52 t_net (t_remembered - 1) Q n52 0 t_past) z 462 66 rfl (Nat.le_refl _)
    rw [s66_0] at this
    rw [show (66 : Int32) = iI ((66 : Nat) : Int) from iI_lit 66]
    exact this
