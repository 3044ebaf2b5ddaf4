/-! THE CLASS PARSES -/
def pzL (n : Nat) (by_ : Nat → Int) : Nat → TK → (Nat → Nat) → Except ER (Nat → Nat)
  | 0, _, s => .ok s
  | f + 1, t, s => if t.1 = 0 then .ok s else match pzE n by_ (pzSt n by_ t s) with
    | .error e => .error e
    | .ok (t2, s2) => pzL n by_ f t2 s2
def pz0 (c l : Nat) : Nat → Nat := fun i => if i = 1 then c else if i = 2 then l else 0
/-- the setup that a text tells, or what is wrong with it and where -/
def pzT (n : Nat) (by_ : Nat → Int) : Except ER (Nat → Nat) := match pzFr n by_ (tkn n by_ 0) with
  | .error e => .error e
  | .ok (cl, t2) => pzL n by_ 601 t2 (pz0 cl.1 cl.2)
theorem WF_pz0 {c l : Nat} (hc : c ≤ 999) (hl : l ≤ 12) : WF (pz0 c l) := by
  refine ⟨by show 0 ≤ 12; omega, hc, hl, by show 0 < 2 ^ 0; omega, by show 0 < 2 ^ 0; omega, by show 0 < 2 ^ 0; omega, fun k hk => ?_⟩
  have : pz0 c l 0 = 0 := rfl
  omega
theorem sl_parse0 {n : Nat} {t1 : Nat → Int32} {t_text : Nat → Int32} {t_draft_capacity : Int32} {t_draft_limit : Int32} {t_draft_hand : Int32} {Q : Int32 → Int32 → Int32 → Int32 → Int32 → Int32 → Int32 → Int32 → (Nat → Int32) → Int32 → Int32 → Int32 → Int32 → Int32 → Int32 → (Nat → Int32) → (Nat → Int32) → (Nat → Int32) → (Nat → Int32) → (Nat → Int32) → Prop} {code place k st nx v items mus nev : Int32} {w g j b nd : Nat → Int32} (hQ : Q 0 code place (iI (n : Nat)) k st nx v t_text items t_draft_capacity t_draft_limit mus nev t_draft_hand w g j b nd) (m : Nat) (x : Int32) : wp_X5_parse_L52 t1 (iI (n:Nat)) t_text t_draft_capacity t_draft_limit t_draft_hand Q (m + 1) 0 x code place k st nx v items mus nev w g j b nd := by
  unfold wp_X5_parse_L52
  exact ⟨fun _ => ⟨rfl, hQ⟩, fun _ => ⟨fun _ => ⟨rfl, hQ⟩, fun z => absurd rfl z⟩⟩
theorem sl_parse {n : Nat} {by_ : Nat → Int} {t1 : Nat → Int32} {t_text : Nat → Int32} {t_draft_capacity : Int32} {t_draft_limit : Int32} {t_draft_hand : Int32} {Q : Int32 → Int32 → Int32 → Int32 → Int32 → Int32 → Int32 → Int32 → (Nat → Int32) → Int32 → Int32 → Int32 → Int32 → Int32 → Int32 → (Nat → Int32) → (Nat → Int32) → (Nat → Int32) → (Nat → Int32) → (Nat → Int32) → Prop} (hT : txP n by_ t_text) {r : Except ER (Nat → Nat)} (hok : ∀ s2, r = .ok s2 → ∀ k st nx v items mus nev w g j b nd, WF s2 → suP s2 items t_draft_capacity t_draft_limit mus nev t_draft_hand w g j b nd → Q 1 0 (-1) (iI (n : Nat)) k st nx v t_text items t_draft_capacity t_draft_limit mus nev t_draft_hand w g j b nd) (her : ∀ c p, r = .error (c, p) → ∀ k st nx v items mus nev w g j b nd, Q 0 (iI (c : Nat)) (iI (p : Nat)) (iI (n : Nat)) k st nx v t_text items t_draft_capacity t_draft_limit mus nev t_draft_hand w g j b nd) :
    ∀ (f i : Nat) (t : TK) (s : Nat → Nat) (items mus nev : Int32) (w g j b nd : Nat → Int32), i + f = 600 → i ≤ t.2.1 → TG n t → TH n t → WF s → suP s items t_draft_capacity t_draft_limit mus nev t_draft_hand w g j b nd → pzL n by_ (f + 1) t s = r → wp_X5_parse_L52 t1 (iI (n:Nat)) t_text t_draft_capacity t_draft_limit t_draft_hand Q (f + 2) 1 (iI (i : Nat)) 0 (-1) (iI (t.1 : Nat)) (iI (t.2.1 : Nat)) (iI (t.2.2.1 : Nat)) (iI t.2.2.2) items mus nev w g j b nd := by
  have hn := hT.1
  intro f
  induction f with
  | zero =>
    intro i t s items mus nev w g j b nd hi h1 hG hH hW hS hr
    unfold wp_X5_parse_L52
    have g3 := hG.2.2.1
    have g2 := hG.2.1
    have k0 : t.1 = 0 := by
      by_cases c : t.1 = 0
      · exact c
      · have := (hH c).1; omega
    simp only [pzL] at hr
    rw [if_pos k0] at hr
    rw [show (600 : Int32) = iI 600 from rfl, iI_le (by omega) (by omega) (by omega) (by omega)]
    exact ⟨fun _ => ⟨rfl, hok s hr.symm _ _ _ _ _ _ _ _ _ _ _ _ hW hS⟩, fun z => by omega⟩
  | succ f ih =>
    intro i t s items mus nev w g j b nd hi h1 hG hH hW hS hr
    unfold wp_X5_parse_L52
    have g1 := hG.1
    have k0 : (iI (t.1 : Nat) = 0) ↔ t.1 = 0 := by
      rw [iI_lit 0, iI_eq (by omega) (by omega) (by omega) (by omega)]
      omega
    rw [show (600 : Int32) = iI 600 from rfl, iI_le (by omega) (by omega) (by omega) (by omega), k0, iI_s1 i]
    rw [pzL] at hr
    refine ⟨fun z => by omega, fun _ => ⟨fun z => absurd z (by decide), fun _ => ⟨fun c => ?_, fun c => ?_⟩⟩⟩
    · rw [if_pos c] at hr
      exact ⟨rfl, hok s hr.symm _ _ _ _ _ _ _ _ _ _ _ _ hW hS⟩
    · rw [if_neg c] at hr
      refine sp_readStatement hT hG hW hS (fun t2 s2 items mus nev w g j b nd G2 W2 S2 hh => ?_) (fun c p hh k st nx v items mus nev w g j b nd => ?_)
      · rw [hh] at hr
        obtain ⟨-, H2, m2⟩ := pzE_st hG hH hh
        exact ih (i + 1) t2 s2 _ _ _ _ _ _ _ _ (by omega) (by omega) G2 H2 W2 S2 hr
      · rw [hh] at hr
        exact sl_parse0 (her c p hr.symm _ _ _ _ _ _ _ _ _ _ _ _) (f + 1) _
theorem sp_parse {n : Nat} {by_ : Nat → Int} {t_code : Int32} {t_place : Int32} {t_length : Int32} {t_kind : Int32} {t_start : Int32} {t_next : Int32} {t_value : Int32} {t1 : Nat → Int32} {t_text : Nat → Int32} {t_draft_items : Int32} {t_draft_capacity : Int32} {t_draft_limit : Int32} {t_draft_mustSet : Int32} {t_draft_neverSet : Int32} {t_draft_hand : Int32} {t_draft_weight : Nat → Int32} {t_draft_gain : Nat → Int32} {t_draft_joy : Nat → Int32} {t_draft_bars : Nat → Int32} {t_draft_needs : Nat → Int32} {Q : Int32 → Int32 → Int32 → Int32 → Int32 → Int32 → Int32 → Int32 → (Nat → Int32) → Int32 → Int32 → Int32 → Int32 → Int32 → Int32 → (Nat → Int32) → (Nat → Int32) → (Nat → Int32) → (Nat → Int32) → (Nat → Int32) → Prop} (hB : ∀ i, i < 600 → fits .byte (.int (t1 i)) = true) (hT : txP n by_ t1) (hok : ∀ s2, pzT n by_ = .ok s2 → ∀ k st nx v text items cap lim mus nev w g j b nd, WF s2 → suP s2 items cap lim mus nev 0 w g j b nd → Q 1 0 (-1) (iI (n : Nat)) k st nx v text items cap lim mus nev 0 w g j b nd) (her : ∀ c p, pzT n by_ = .error (c, p) → ∀ k st nx v text items cap lim mus nev w g j b nd, Q 0 (iI (c : Nat)) (iI (p : Nat)) (iI (n : Nat)) k st nx v text items cap lim mus nev 0 w g j b nd) : wp_X5_parse (iI (n:Nat)) t_code t_place t_length t_kind t_start t_next t_value t1 t_text t_draft_items t_draft_capacity t_draft_limit t_draft_mustSet t_draft_neverSet t_draft_hand t_draft_weight t_draft_gain t_draft_joy t_draft_bars t_draft_needs Q := by
  have hT2 : txP n by_ (va_cpy t1 t_text 0 0 600) := by
    refine ⟨hT.1, hT.2.1, fun p hp => ?_⟩
    have := hT.1
    rw [← hT.2.2 p hp]
    unfold va_cpy
    rw [if_pos (by omega)]
    congr 1
    omega
  unfold wp_X5_parse wp_X8_clear
  refine ⟨hB, ?_⟩
  have key := sp_advance (t_kind := t_kind) (t_start := t_start) (t_value := t_value) (Q := fun a b c d => wp_X5_readFrame 0 (-1) (iI (n : Nat)) a b c d (va_cpy t1 t_text 0 0 600) t_draft_capacity t_draft_limit (fun r45 u9 u10 u11 u12 u13 u14 u15 u16 => ∃ n52, wp_X5_parse_L52 t1 (iI (n : Nat)) (va_cpy t1 t_text 0 0 600) u15 u16 0 Q n52 r45 0 u9 u10 u11 u12 u13 u14 0 0 0 t_draft_weight t_draft_gain t_draft_joy t_draft_bars t_draft_needs)) hT2 (p := 0) (by omega)
  refine key ?_
  refine sp_readFrame hT2 (TG_tkn (by omega)) (fun c l t2 G2 hc hl hh => ⟨602, ?_⟩) (fun c p hh k st nx v cap lim => ⟨1, ?_⟩)
  · have e : pzT n by_ = pzL n by_ 601 t2 (pz0 c l) := by
      unfold pzT
      rw [hh]
    have H2 : TH n t2 := by
      unfold pzFr at hh
      cases x1 : pzFb n by_ (tkn n by_ 0) with
      | error x => rw [x1] at hh; exact absurd hh (by simp)
      | ok y1 =>
        obtain ⟨cl, ta⟩ := y1
        rw [x1] at hh
        simp only at hh
        unfold pE at hh
        by_cases z : ta.1 = 3 ∧ by_ ta.2.1 = 59
        · rw [if_pos z] at hh
          simp only [Except.ok.injEq, Prod.mk.injEq] at hh
          rw [← hh.2]
          exact TH_tkn
        · rw [if_neg z] at hh
          exact absurd hh (by simp)
    have hS : suP (pz0 c l) 0 (iI (c : Nat)) (iI (l : Nat)) 0 0 0 t_draft_weight t_draft_gain t_draft_joy t_draft_bars t_draft_needs := ⟨iI_lit 0, rfl, rfl, iI_lit 0, iI_lit 0, iI_lit 0, fun k hk => by have : pz0 c l 0 = 0 := rfl; omega⟩
    exact sl_parse hT2 (fun s2 h2 k st nx v items mus nev w g j b nd W2 S2 => hok s2 h2 _ _ _ _ _ _ _ _ _ _ _ _ _ _ _ W2 S2) (fun c p h2 k st nx v items mus nev w g j b nd => her c p h2 _ _ _ _ _ _ _ _ _ _ _ _ _ _ _) 600 0 t2 (pz0 c l) 0 0 0 _ _ _ _ _ (by omega) (by omega) G2 H2 (WF_pz0 hc hl) hS e.symm
  · exact sl_parse0 (her c p (by unfold pzT; rw [hh]) _ _ _ _ _ _ _ _ _ _ _ _ _ _ _) 0 _
