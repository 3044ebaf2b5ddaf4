/-! WHAT CAN BE UNDONE: a list of setups, the oldest first -/
abbrev SU (t : Nat → Nat) (a : Nat → Int32) (b : Nat → Nat → Int32) : Prop := suP t (a 0) (a 1) (a 2) (a 3) (a 4) (a 5) (b 0) (b 1) (b 2) (b 3) (b 4)
/-- the class's row of setups holds the list -/
def paP (ps : List (Nat → Nat)) (count : Int32) (pi : Nat → Nat → Int32) (pr : Nat → Nat → Nat → Int32) : Prop := count = iI (ps.length : Nat) ∧ ∀ k t, ps[k]? = some t → SU t (pi k) (pr k)
def pshL (ps : List (Nat → Nat)) (s : Nat → Nat) : List (Nat → Nat) := (if ps.length = 8 then ps.tail else ps) ++ [s]
theorem pshL_le {ps : List (Nat → Nat)} {s : Nat → Nat} (h : ps.length ≤ 8) : (pshL ps s).length ≤ 8 := by
  unfold pshL
  rw [List.length_append]
  split
  · rw [List.length_tail]; simp only [List.length_cons, List.length_nil]; omega
  · simp only [List.length_cons, List.length_nil]; omega
theorem pshL_all {P : (Nat → Nat) → Prop} {ps : List (Nat → Nat)} {s : Nat → Nat} (h : ∀ t ∈ ps, P t) (hs : P s) : ∀ t ∈ pshL ps s, P t := by
  intro t ht
  unfold pshL at ht
  rcases List.mem_append.mp ht with h1 | h1
  · by_cases c : ps.length = 8
    · rw [if_pos c] at h1; exact h t (List.mem_of_mem_tail h1)
    · rw [if_neg c] at h1; exact h t h1
  · rw [List.mem_singleton.mp h1]; exact hs
theorem famT_lt {α : Type} {f : Nat → α} {k : Nat} (h : k < 7) : famT f k = f (k + 1) := by
  rcases (show k = 0 ∨ k = 1 ∨ k = 2 ∨ k = 3 ∨ k = 4 ∨ k = 5 ∨ k = 6 by omega) with rfl | rfl | rfl | rfl | rfl | rfl | rfl <;> rfl
theorem famU_ne {α : Type} {f : Nat → α} {k i : Nat} {v : α} (h : i ≠ k) : famU k v f i = f i := if_neg h
theorem famU_eq {α : Type} {f : Nat → α} {k : Nat} {v : α} : famU k v f k = v := if_pos rfl
theorem pa_snoc {ps : List (Nat → Nat)} {s : Nat → Nat} {pi : Nat → Nat → Int32} {pr : Nat → Nat → Nat → Int32} (h : ∀ k t, ps[k]? = some t → SU t (pi k) (pr k)) {a : Nat → Int32} {b : Nat → Nat → Int32} (hs : SU s a b) : ∀ k t, (ps ++ [s])[k]? = some t → SU t (famU ps.length a pi k) (famU ps.length b pr k) := by
  intro k t hk
  by_cases c : k < ps.length
  · rw [List.getElem?_append_left c] at hk
    rw [famU_ne (by omega), famU_ne (by omega)]
    exact h k t hk
  · have hlt := (List.getElem?_eq_some_iff.mp hk).1
    rw [List.length_append, List.length_cons, List.length_nil] at hlt
    obtain rfl : k = ps.length := by omega
    rw [List.getElem?_append_right (Nat.le_refl _), Nat.sub_self] at hk
    obtain rfl := Option.some.inj hk
    rw [famU_eq, famU_eq]
    exact hs
theorem sp_pushB {s : Nat → Nat} (hW : WF s) {ps : List (Nat → Nat)} (hl : ps.length < 8) {t1_items : Int32} {t1_capacity : Int32} {t1_limit : Int32} {t1_mustSet : Int32} {t1_neverSet : Int32} {t1_hand : Int32} {t1_weight : Nat → Int32} {t1_gain : Nat → Int32} {t1_joy : Nat → Int32} {t1_bars : Nat → Int32} {t1_needs : Nat → Int32} {Q : Int32 → (Nat → Nat → Nat) → (Nat → Nat → Int32) → (Nat → Nat → Nat → Int32) → Prop} {t_count : Int32} {t_setups_pq : Nat → Nat → Nat} {t_setups_pi : Nat → Nat → Int32} {t_setups_pr : Nat → Nat → Nat → Int32} (hP : paP ps t_count t_setups_pi t_setups_pr) (hS : suP s t1_items t1_capacity t1_limit t1_mustSet t1_neverSet t1_hand t1_weight t1_gain t1_joy t1_bars t1_needs) (hQ : ∀ count pq pi pr, paP (ps ++ [s]) count pi pr → Q count pq pi pr) : wp_X6_push_b13 t1_items t1_capacity t1_limit t1_mustSet t1_neverSet t1_hand t1_weight t1_gain t1_joy t1_bars t1_needs Q t_count t_setups_pq t_setups_pi t_setups_pr := by
  unfold wp_X6_push_b13
  refine ⟨ps.length, hl, by rw [hP.1]; exact (iI_nI _).symm, sp_copyFrom hW hS fun items cap lim mus nev hand w g j b n h => hQ _ _ _ _ ⟨?_, ?_⟩⟩
  · rw [hP.1, iI_succ, List.length_append]; rfl
  · exact pa_snoc hP.2 h
theorem sp_push {s : Nat → Nat} (hW : WF s) {ps : List (Nat → Nat)} (hl : ps.length ≤ 8) {t_count : Int32} {t1_items : Int32} {t1_capacity : Int32} {t1_limit : Int32} {t1_mustSet : Int32} {t1_neverSet : Int32} {t1_hand : Int32} {t1_weight : Nat → Int32} {t1_gain : Nat → Int32} {t1_joy : Nat → Int32} {t1_bars : Nat → Int32} {t1_needs : Nat → Int32} {t_setups_pq : Nat → Nat → Nat} {t_setups_pi : Nat → Nat → Int32} {t_setups_pr : Nat → Nat → Nat → Int32} {Q : Int32 → (Nat → Nat → Nat) → (Nat → Nat → Int32) → (Nat → Nat → Nat → Int32) → Prop} (hP : paP ps t_count t_setups_pi t_setups_pr) (hS : suP s t1_items t1_capacity t1_limit t1_mustSet t1_neverSet t1_hand t1_weight t1_gain t1_joy t1_bars t1_needs) (hQ : ∀ count pq pi pr, paP (pshL ps s) count pi pr → Q count pq pi pr) : wp_X6_push t_count t1_items t1_capacity t1_limit t1_mustSet t1_neverSet t1_hand t1_weight t1_gain t1_joy t1_bars t1_needs t_setups_pq t_setups_pi t_setups_pr Q := by
  unfold wp_X6_push
  unfold pshL at hQ
  have e : t_count < 8 ↔ ps.length < 8 := by rw [hP.1, iI_lit 8, iI_lt (by omega) (by omega) (by omega) (by omega)]; omega
  rw [e]
  refine ⟨fun c => ?_, fun c => ?_⟩
  · rw [if_neg (by omega)] at hQ
    exact sp_pushB hW c hP hS hQ
  · have c8 : ps.length = 8 := by omega
    rw [if_pos c8] at hQ
    unfold wp_X6_forgetOldest
    refine sp_pushB (ps := ps.tail) hW (by rw [List.length_tail]; omega) ⟨?_, fun k t hk => ?_⟩ hS hQ
    · rw [List.length_tail, c8]; exact iI_lit 7
    · have hlt := (List.getElem?_eq_some_iff.mp hk).1
      rw [List.length_tail] at hlt
      rw [List.getElem?_tail] at hk
      rw [famT_lt (by omega), famT_lt (by omega)]
      exact hP.2 (k + 1) t hk
/-! the reference's -/
