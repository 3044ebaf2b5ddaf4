/-! LOAD, AS THE CLASS DOES IT; APPEND, TRUNCATE -/
theorem sq_load {n : Nat} {by_ : Nat → Int} {s : Nat → Nat} (hW : WF s) {ps : List (Nat → Nat)} (hl : ps.length ≤ 8) {t_parseCode : Int32} {t_parsePosition : Int32} {t_frontierFresh : Int32} {t_searchFresh : Int32} {t_layersFresh : Int32} {t_parser_code : Int32} {t_parser_place : Int32} {t_parser_length : Int32} {t_parser_kind : Int32} {t_parser_start : Int32} {t_parser_next : Int32} {t_parser_value : Int32} {t_input : Nat → Int32} {t_parser_text : Nat → Int32} {t_parser_draft_items : Int32} {t_parser_draft_capacity : Int32} {t_parser_draft_limit : Int32} {t_parser_draft_mustSet : Int32} {t_parser_draft_neverSet : Int32} {t_parser_draft_hand : Int32} {t_parser_draft_weight : Nat → Int32} {t_parser_draft_gain : Nat → Int32} {t_parser_draft_joy : Nat → Int32} {t_parser_draft_bars : Nat → Int32} {t_parser_draft_needs : Nat → Int32} {t_past_count : Int32} {t_now_items : Int32} {t_now_capacity : Int32} {t_now_limit : Int32} {t_now_mustSet : Int32} {t_now_neverSet : Int32} {t_now_hand : Int32} {t_now_weight : Nat → Int32} {t_now_gain : Nat → Int32} {t_now_joy : Nat → Int32} {t_now_bars : Nat → Int32} {t_now_needs : Nat → Int32} {t_past_setups_pq : Nat → Nat → Nat} {t_past_setups_pi : Nat → Nat → Int32} {t_past_setups_pr : Nat → Nat → Nat → Int32} {Q : Int32 → Int32 → Int32 → Int32 → Int32 → Int32 → Int32 → Int32 → Int32 → Int32 → Int32 → Int32 → Int32 → Int32 → (Nat → Int32) → Int32 → Int32 → Int32 → Int32 → Int32 → Int32 → (Nat → Int32) → (Nat → Int32) → (Nat → Int32) → (Nat → Int32) → (Nat → Int32) → Int32 → Int32 → Int32 → Int32 → Int32 → Int32 → Int32 → (Nat → Int32) → (Nat → Int32) → (Nat → Int32) → (Nat → Int32) → (Nat → Int32) → (Nat → Nat → Nat) → (Nat → Nat → Int32) → (Nat → Nat → Nat → Int32) → Prop} (hB : ∀ i, i < 600 → fits .byte (.int (t_input i)) = true) (hT : txP n by_ t_input) (hP : paP ps t_past_count t_past_setups_pi t_past_setups_pr) (hS : suP s t_now_items t_now_capacity t_now_limit t_now_mustSet t_now_neverSet t_now_hand t_now_weight t_now_gain t_now_joy t_now_bars t_now_needs) (hok : ∀ s2, WF s2 → pzT n by_ = .ok s2 → ∀ pc pp pl pk pst pnx pv ptx di dc dl dm dn dh dw dg dj db dd count items cap lim mus nev hand w g j b nd pq pi pr, paP (pshL ps s) count pi pr → suP s2 items cap lim mus nev hand w g j b nd → Q (iI (s2 0 : Nat)) 0 0 (-1) 0 0 0 pc pp pl pk pst pnx pv ptx di dc dl dm dn dh dw dg dj db dd count items cap lim mus nev hand w g j b nd pq pi pr) (her : ∀ c p, pzT n by_ = .error (c, p) → ∀ pc pp pl pk pst pnx pv ptx di dc dl dm dn dh dw dg dj db dd, Q (-4) 0 (iI (c : Nat)) (iI (p : Nat)) t_frontierFresh t_searchFresh t_layersFresh pc pp pl pk pst pnx pv ptx di dc dl dm dn dh dw dg dj db dd t_past_count t_now_items t_now_capacity t_now_limit t_now_mustSet t_now_neverSet t_now_hand t_now_weight t_now_gain t_now_joy t_now_bars t_now_needs t_past_setups_pq t_past_setups_pi t_past_setups_pr) : wp_X10_load (iI (n:Nat)) t_parseCode t_parsePosition t_frontierFresh t_searchFresh t_layersFresh t_parser_code t_parser_place t_parser_length t_parser_kind t_parser_start t_parser_next t_parser_value t_input t_parser_text t_parser_draft_items t_parser_draft_capacity t_parser_draft_limit t_parser_draft_mustSet t_parser_draft_neverSet t_parser_draft_hand t_parser_draft_weight t_parser_draft_gain t_parser_draft_joy t_parser_draft_bars t_parser_draft_needs t_past_count t_now_items t_now_capacity t_now_limit t_now_mustSet t_now_neverSet t_now_hand t_now_weight t_now_gain t_now_joy t_now_bars t_now_needs t_past_setups_pq t_past_setups_pi t_past_setups_pr Q := by
  unfold wp_X10_load
  refine sp_parse hB hT (fun s2 e k st nx v text items cap lim mus nev w g j b nd W2 S2 => ⟨fun _ => ?_, fun z => absurd z (by decide)⟩) (fun c p e k st nx v text items cap lim mus nev w g j b nd => ⟨fun z => absurd rfl z, fun _ => her c p e _ _ _ _ _ _ _ _ _ _ _ _ _ _ _ _ _ _ _⟩)
  refine sp_push hW hl hP hS fun count pq pi pr hp => sp_copyFrom W2 S2 fun i2 c2 l2 m2 n2 h2 w2 g2 j2 b2 nd2 S3 => ?_
  unfold wp_X10_markChanged
  have e0 := S3.1
  have ans := hok s2 W2 e
  subst e0
  exact ans _ _ _ _ _ _ _ _ _ _ _ _ _ _ _ _ _ _ _ count _ _ _ _ _ _ _ _ _ _ _ pq pi pr hp S3
/-- byte m of a word, counted from the last -/
def bq (x : Int32) (m : Nat) : Int := (vp_nar .byte ((x >>> (iI ((8 * m : Nat) : Int) &&& 31)).toInt8.toInt32)).toInt
theorem bq_rng (x : Int32) (m : Nat) : -128 ≤ bq x m ∧ bq x m ≤ 127 := by
  unfold bq
  generalize x >>> (iI ((8 * m : Nat) : Int) &&& 31) = y
  show -128 ≤ (y.toInt8.toInt32.toInt8.toInt32).toInt ∧ (y.toInt8.toInt32.toInt8.toInt32).toInt ≤ 127
  rw [Int8.toInt_toInt32]
  have a := Int8.le_toInt (y.toInt8.toInt32.toInt8)
  have b := Int8.toInt_lt (y.toInt8.toInt32.toInt8)
  omega
def apB (x : Int32) : Nat → Nat → (Nat → Int) → (Nat → Int)
  | 0, _, by_ => by_
  | m + 1, n, by_ => apB x m (n + 1) (fun i => if i = n then bq x m else by_ i)
theorem txP_put {n : Nat} {by_ : Nat → Int} {input : Nat → Int32} (h : txP n by_ input) (hn : n < 600) (x : Int32) (m : Nat) : txP (n + 1) (fun i => if i = n then bq x m else by_ i) (upd input n (vp_nar .byte ((x >>> (iI ((8 * m : Nat) : Int) &&& 31)).toInt8.toInt32))) := by
  obtain ⟨h1, h2, h3⟩ := h
  refine ⟨by omega, fun p => ?_, fun p hp => ?_⟩
  · by_cases e : p = n
    · simp only [e, if_true]; exact bq_rng x m
    · simp only [if_neg e]; exact h2 p
  · by_cases e : p = n
    · simp only [e, if_true]
      rw [pk_us]
      exact iI_of _
    · simp only [if_neg e]
      rw [pk_un e]
      exact h3 p (by omega)
