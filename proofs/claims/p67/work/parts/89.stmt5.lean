/-! THE CLASS READS A TEXT -/
theorem tkn_st {n : Nat} {by_ : Nat → Int} {p : Nat} (h : (tkn n by_ p).1 ≠ 0) : (tkn n by_ p).2.1 < n := by
  by_cases c : bgn n by_ p < n
  · unfold tkn
    rw [if_pos c]
    split
    · exact c
    · split
      · exact c
      · exact c
  · unfold tkn at h
    rw [if_neg c] at h
    exact absurd rfl h
theorem nxt_st {n : Nat} {by_ : Nat → Int} {t : TK} (h : TG n t) : t.2.2.1 ≤ (nxt n by_ t).2.1 := (tkn_rng (by_ := by_) h.2.2.1).2.1
theorem pN_mono {n : Nat} {by_ : Nat → Int} {g : Int} {t t2 : TK} {v : Nat} (h : TG n t) (e : pN n by_ g t = .ok (v, t2)) : TG n t2 ∧ t.2.1 ≤ t2.2.1 := by
  unfold pN at e
  cases h1 : cN g t with
  | error x => rw [h1] at e; exact absurd e (by simp)
  | ok x =>
    rw [h1] at e
    simp only [Except.ok.injEq, Prod.mk.injEq] at e
    obtain ⟨-, e⟩ := e
    subst e
    have := nxt_st (by_ := by_) h
    exact ⟨TG_nxt h, by have := h.2.1; omega⟩
theorem pB_mono {n : Nat} {by_ : Nat → Int} {w : List Int32} {g : Int} {t t2 : TK} {v : Nat} (h : TG n t) (e : pB n by_ w g t = .ok (v, t2)) : TG n t2 ∧ t.2.1 ≤ t2.2.1 := by
  unfold pB pW at e
  by_cases c : isW by_ t w = true
  · rw [if_pos c] at e
    have := pN_mono (TG_nxt h) e
    have := nxt_st (by_ := by_) h
    have := h.2.1
    exact ⟨(pN_mono (TG_nxt h) e).1, by omega⟩
  · rw [if_neg c] at e
    exact absurd e (by simp)
theorem pzSt_mono {n : Nat} {by_ : Nat → Int} {t t2 : TK} {s s2 : Nat → Nat} (h : TG n t) (h0 : t.1 ≠ 0 → t.2.1 < t.2.2.1) (e : pzSt n by_ t s = .ok (t2, s2)) : TG n t2 ∧ t.2.1 + 1 ≤ t2.2.1 := by
  have h1 := nxt_st (by_ := by_) h
  have G1 := TG_nxt (by_ := by_) h
  have it : isW by_ t wIt = true ∨ isW by_ t wBar = true ∨ isW by_ t wNeed = true ∨ isW by_ t wMust = true ∨ isW by_ t wNev = true → t.1 ≠ 0 := by
    intro z c
    have : ∀ w, isW by_ t w = false := fun w => by unfold isW; rw [if_neg (by omega)]
    simp only [this, Bool.false_eq_true, or_self] at z
  have iB : ∀ s2 : Nat → Nat, t.1 ≠ 0 → pzIt n by_ t s = .ok (t2, s2) → TG n t2 ∧ t.2.1 + 1 ≤ t2.2.1 := by
    intro s2 k e
    unfold pzIt at e
    by_cases c : s 0 < 12
    · rw [if_pos c] at e
      cases x1 : pB n by_ wWe 99 (nxt n by_ t) with
      | error x => rw [x1] at e; exact absurd e (by simp)
      | ok y1 =>
        obtain ⟨a, ta⟩ := y1
        rw [x1] at e
        simp only at e
        cases x2 : pB n by_ wGa 99 ta with
        | error x => rw [x2] at e; exact absurd e (by simp)
        | ok y2 =>
          obtain ⟨b, tb2⟩ := y2
          rw [x2] at e
          simp only at e
          cases x3 : pB n by_ wJo 99 tb2 with
          | error x => rw [x3] at e; exact absurd e (by simp)
          | ok y3 =>
            obtain ⟨d, tc⟩ := y3
            rw [x3] at e
            simp only [Except.ok.injEq, Prod.mk.injEq] at e
            obtain ⟨e, -⟩ := e
            subst e
            have m1 := pB_mono G1 x1
            have m2 := pB_mono m1.1 x2
            have m3 := pB_mono m2.1 x3
            have := h0 k
            exact ⟨m3.1, by omega⟩
    · rw [if_neg c] at e
      exact absurd e (by simp)
  have pr : ∀ w, t.1 ≠ 0 → pzPr n by_ w t s = .ok (t2, s2) → TG n t2 ∧ t.2.1 + 1 ≤ t2.2.1 := by
    intro w k e
    unfold pzPr at e
    cases x1 : pN n by_ ((s 0 : Int) - 1) (nxt n by_ t) with
    | error x => rw [x1] at e; exact absurd e (by simp)
    | ok y1 =>
      obtain ⟨a, ta⟩ := y1
      rw [x1] at e
      simp only at e
      cases x2 : cN ((s 0 : Int) - 1) ta with
      | error x => rw [x2] at e; exact absurd e (by simp)
      | ok b =>
        rw [x2] at e
        simp only at e
        by_cases c : b = a ∨ (s (6 + 5 * a + w)).testBit b = true
        · rw [if_pos c] at e; exact absurd e (by simp)
        · rw [if_neg c] at e
          simp only [Except.ok.injEq, Prod.mk.injEq] at e
          obtain ⟨e, -⟩ := e
          subst e
          have m1 := pN_mono G1 x1
          have := nxt_st (by_ := by_) m1.1
          have := m1.1.2.1
          have := h0 k
          exact ⟨TG_nxt m1.1, by omega⟩
  have on_ : ∀ w, t.1 ≠ 0 → pzOn n by_ w t s = .ok (t2, s2) → TG n t2 ∧ t.2.1 + 1 ≤ t2.2.1 := by
    intro w k e
    unfold pzOn at e
    cases x2 : cN ((s 0 : Int) - 1) (nxt n by_ t) with
    | error x => rw [x2] at e; exact absurd e (by simp)
    | ok a =>
      rw [x2] at e
      simp only at e
      by_cases c : (s w).testBit a = true
      · rw [if_pos c] at e; exact absurd e (by simp)
      · rw [if_neg c] at e
        simp only [Except.ok.injEq, Prod.mk.injEq] at e
        obtain ⟨e, -⟩ := e
        subst e
        have := nxt_st (by_ := by_) G1
        have := G1.2.1
        have := h0 k
        exact ⟨TG_nxt G1, by omega⟩
  unfold pzSt at e
  by_cases c1 : isW by_ t wIt = true
  · rw [if_pos c1] at e; exact iB s2 (it (Or.inl c1)) e
  · rw [if_neg c1] at e
    by_cases c2 : isW by_ t wBar = true
    · rw [if_pos c2] at e; exact pr 3 (it (Or.inr (Or.inl c2))) e
    · rw [if_neg c2] at e
      by_cases c3 : isW by_ t wNeed = true
      · rw [if_pos c3] at e; exact pr 4 (it (Or.inr (Or.inr (Or.inl c3)))) e
      · rw [if_neg c3] at e
        by_cases c4 : isW by_ t wMust = true
        · rw [if_pos c4] at e; exact on_ 3 (it (Or.inr (Or.inr (Or.inr (Or.inl c4))))) e
        · rw [if_neg c4] at e
          by_cases c5 : isW by_ t wNev = true
          · rw [if_pos c5] at e; exact on_ 4 (it (Or.inr (Or.inr (Or.inr (Or.inr c5))))) e
          · rw [if_neg c5] at e; exact absurd e (by simp)
theorem tkn_adv {n : Nat} {by_ : Nat → Int} {p : Nat} (h : (tkn n by_ p).1 ≠ 0) : (tkn n by_ p).2.1 < (tkn n by_ p).2.2.1 := by
  by_cases c : bgn n by_ p < n
  · have e : n - bgn n by_ p = (n - bgn n by_ p - 1) + 1 := by omega
    unfold tkn
    rw [if_pos c]
    split
    · rename_i d
      show bgn n by_ p < lts n by_ (n - bgn n by_ p) (bgn n by_ p)
      rw [e]
      simp only [lts]
      rw [if_pos ⟨c, d⟩]
      have := lts_rng (by_ := by_) (f := n - bgn n by_ p - 1) (p := bgn n by_ p + 1) (n := n) (by omega)
      omega
    · split
      · rename_i d
        show bgn n by_ p < (dgs n by_ (n - bgn n by_ p) (bgn n by_ p) 0).1
        rw [e]
        simp only [dgs]
        rw [if_pos ⟨c, d⟩]
        have := dgs_rng (by_ := by_) (f := n - bgn n by_ p - 1) (p := bgn n by_ p + 1) (n := n) (v := if 10 * 0 + by_ (bgn n by_ p) - 48 < 100000 then 10 * 0 + by_ (bgn n by_ p) - 48 else 100000) (by omega) (by split <;> omega)
        omega
      · show bgn n by_ p < bgn n by_ p + 1
        omega
  · unfold tkn at h
    rw [if_neg c] at h
    exact absurd rfl h
abbrev TH (n : Nat) (t : TK) : Prop := t.1 ≠ 0 → t.2.1 < n ∧ t.2.1 < t.2.2.1
theorem TH_tkn {n : Nat} {by_ : Nat → Int} {p : Nat} : TH n (tkn n by_ p) := fun h => ⟨tkn_st h, tkn_adv h⟩
theorem pzE_ok {n : Nat} {by_ : Nat → Int} {r : PzR} {t2 : TK} {s2 : Nat → Nat} (e : pzE n by_ r = .ok (t2, s2)) : ∃ t1, r = .ok (t1, s2) ∧ t2 = nxt n by_ t1 := by
  unfold pzE at e
  cases r with
  | error x => exact absurd e (by simp)
  | ok y =>
    obtain ⟨t1, s1⟩ := y
    simp only at e
    unfold pE at e
    by_cases c : t1.1 = 3 ∧ by_ t1.2.1 = 59
    · rw [if_pos c] at e
      simp only [Except.ok.injEq, Prod.mk.injEq] at e
      exact ⟨t1, by rw [e.2], e.1.symm⟩
    · rw [if_neg c] at e
      exact absurd e (by simp)
theorem pzE_st {n : Nat} {by_ : Nat → Int} {t t2 : TK} {s s2 : Nat → Nat} (h : TG n t) (h0 : TH n t) (e : pzE n by_ (pzSt n by_ t s) = .ok (t2, s2)) : TG n t2 ∧ TH n t2 ∧ t.2.1 + 1 ≤ t2.2.1 := by
  obtain ⟨t1, e1, e2⟩ := pzE_ok e
  obtain ⟨m1, m2⟩ := pzSt_mono h (fun k => (h0 k).2) e1
  have := nxt_st (by_ := by_) m1
  have := m1.2.1
  subst e2
  exact ⟨TG_nxt m1, TH_tkn, by omega⟩
theorem sp_readStatement {n : Nat} {by_ : Nat → Int} {t_code : Int32} {t_place : Int32} {t_text : Nat → Int32} {t_draft_items : Int32} {t_draft_mustSet : Int32} {t_draft_neverSet : Int32} {t_draft_weight : Nat → Int32} {t_draft_gain : Nat → Int32} {t_draft_joy : Nat → Int32} {t_draft_bars : Nat → Int32} {t_draft_needs : Nat → Int32} {Q : Int32 → Int32 → Int32 → Int32 → Int32 → Int32 → Int32 → Int32 → Int32 → Int32 → (Nat → Int32) → (Nat → Int32) → (Nat → Int32) → (Nat → Int32) → (Nat → Int32) → Prop} (hT : txP n by_ t_text) {t : TK} (hG : TG n t) {s : Nat → Nat} (hW : WF s) {cap lim hand : Int32} (hS : suP s t_draft_items cap lim t_draft_mustSet t_draft_neverSet hand t_draft_weight t_draft_gain t_draft_joy t_draft_bars t_draft_needs) (hok : ∀ t2 s2 items mus nev w g j b nd, TG n t2 → WF s2 → suP s2 items cap lim mus nev hand w g j b nd → pzE n by_ (pzSt n by_ t s) = .ok (t2, s2) → Q 1 t_code t_place (iI (t2.1 : Nat)) (iI (t2.2.1 : Nat)) (iI (t2.2.2.1 : Nat)) (iI t2.2.2.2) items mus nev w g j b nd) (her : ∀ c p, pzE n by_ (pzSt n by_ t s) = .error (c, p) → ∀ k st nx v items mus nev w g j b nd, Q 0 (iI (c : Nat)) (iI (p : Nat)) k st nx v items mus nev w g j b nd) : wp_X5_readStatement t_code t_place (iI (n:Nat)) (iI (t.1:Nat)) (iI (t.2.1:Nat)) (iI (t.2.2.1:Nat)) (iI t.2.2.2) t_text t_draft_items t_draft_mustSet t_draft_neverSet t_draft_weight t_draft_gain t_draft_joy t_draft_bars t_draft_needs Q := by
  have e0 := hS.1
  subst e0
  unfold wp_X5_readStatement
  refine sp_isWord5 hT gIt hG ?_
  cases h1 : isW by_ t wIt with
  | true =>
    have eS : pzSt n by_ t s = pzIt n by_ t s := by simp only [pzSt, h1, if_true]
    rw [eS] at hok her
    exact ⟨fun z => absurd z (by decide), fun _ => sp_readItem hT hG hW hS (fun t2 s2 items w g j b nd G2 W2 S2 hh => ⟨rfl, hok t2 s2 items _ _ w g j b nd G2 W2 S2 hh⟩) (fun c p hh k st nx v items w g j b nd => ⟨rfl, her c p hh _ _ _ _ _ _ _ _ _ _ _ _⟩)⟩
  | false =>
    refine ⟨fun _ => sp_isWord5 hT gBar hG ?_, fun z => absurd rfl z⟩
    cases h2 : isW by_ t wBar with
    | true =>
      have eS : pzSt n by_ t s = pzPr n by_ 3 t s := by simp only [pzSt, h1, h2, if_true, Bool.false_eq_true, if_false]
      rw [eS] at hok her
      refine ⟨fun _ => ?_, fun z => absurd z (by decide)⟩
      unfold wp_X5_readStatement_b32
      refine sp_isWord5 hT gBar hG ?_
      rw [h2, show b01 true = (1 : Int32) from rfl]
      exact sp_readPair3 hT hG hW hS (fun t2 s2 b nd G2 W2 S2 hh => ⟨rfl, hok t2 s2 _ _ _ _ _ _ b nd G2 W2 S2 hh⟩) (fun c p hh k st nx v b nd => ⟨rfl, her c p hh _ _ _ _ _ _ _ _ _ _ _ _⟩)
    | false =>
      refine ⟨fun z => absurd rfl z, fun _ => sp_isWord5 hT gNeed hG ?_⟩
      cases h3 : isW by_ t wNeed with
      | true =>
        have eS : pzSt n by_ t s = pzPr n by_ 4 t s := by simp only [pzSt, h1, h2, h3, if_true, Bool.false_eq_true, if_false]
        rw [eS] at hok her
        refine ⟨fun z => absurd z (by decide), fun _ => ?_⟩
        unfold wp_X5_readStatement_b32
        refine sp_isWord5 hT gBar hG ?_
        rw [h2, show b01 false = (0 : Int32) from rfl]
        exact sp_readPair4 hT hG hW hS (fun t2 s2 b nd G2 W2 S2 hh => ⟨rfl, hok t2 s2 _ _ _ _ _ _ b nd G2 W2 S2 hh⟩) (fun c p hh k st nx v b nd => ⟨rfl, her c p hh _ _ _ _ _ _ _ _ _ _ _ _⟩)
      | false =>
        refine ⟨fun _ => sp_isWord5 hT gMust hG ?_, fun z => absurd rfl z⟩
        cases h4 : isW by_ t wMust with
        | true =>
          have eS : pzSt n by_ t s = pzOn n by_ 3 t s := by simp only [pzSt, h1, h2, h3, h4, if_true, Bool.false_eq_true, if_false]
          rw [eS] at hok her
          refine ⟨fun _ => ?_, fun z => absurd z (by decide)⟩
          unfold wp_X5_readStatement_b61
          refine sp_isWord5 hT gMust hG ?_
          rw [h4, show b01 true = (1 : Int32) from rfl]
          exact sp_readSingle3 hT hG hW hS (fun t2 s2 mus nev G2 W2 S2 hh => ⟨rfl, hok t2 s2 _ _ _ _ _ _ _ _ G2 W2 S2 hh⟩) (fun c p hh k st nx v mus nev => ⟨rfl, her c p hh _ _ _ _ _ _ _ _ _ _ _ _⟩)
        | false =>
          refine ⟨fun z => absurd rfl z, fun _ => sp_isWord5 hT gNev hG ?_⟩
          cases h5 : isW by_ t wNev with
          | true =>
            have eS : pzSt n by_ t s = pzOn n by_ 4 t s := by simp only [pzSt, h1, h2, h3, h4, h5, if_true, Bool.false_eq_true, if_false]
            rw [eS] at hok her
            refine ⟨fun z => absurd z (by decide), fun _ => ?_⟩
            unfold wp_X5_readStatement_b61
            refine sp_isWord5 hT gMust hG ?_
            rw [h4, show b01 false = (0 : Int32) from rfl]
            exact sp_readSingle4 hT hG hW hS (fun t2 s2 mus nev G2 W2 S2 hh => ⟨rfl, hok t2 s2 _ _ _ _ _ _ _ _ G2 W2 S2 hh⟩) (fun c p hh k st nx v mus nev => ⟨rfl, her c p hh _ _ _ _ _ _ _ _ _ _ _ _⟩)
          | false =>
            have eS : pzSt n by_ t s = .error (1, t.2.1) := by simp only [pzSt, h1, h2, h3, h4, h5, Bool.false_eq_true, if_false]
            rw [eS] at her
            unfold wp_X5_fail
            exact ⟨fun _ => ⟨rfl, her 1 t.2.1 rfl _ _ _ _ _ _ _ _ _ _ _ _⟩, fun z => absurd rfl z⟩
