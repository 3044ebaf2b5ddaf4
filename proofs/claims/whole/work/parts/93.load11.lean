/-! THE REFERENCE LOADS -/
theorem sp_parseStatement {n : Nat} {by_ : Nat → Int} {t_value : Int32} {t_errorPlace : Int32} {t_input : Nat → Int32} {t_row : Nat → Int32} {Q : Int32 → Int32 → Int32 → Int32 → Int32 → Int32 → (Nat → Int32) → Prop} (hT : txP n by_ t_input) {t : TK} (hG : TG n t) {s : Nat → Nat} (hW : WF s) (hN : nzP s t_row) (hok : ∀ t2 s2 tv row, TG n t2 → rvP n by_ t2 tv → WF s2 → nzP s2 row → pzE n by_ (pzSt n by_ t s) = .ok (t2, s2) → Q (iI (t2.2.2.1 : Nat)) (iI (t2.2.1 : Nat)) (iI (t2.1 : Nat)) tv 0 t_errorPlace row) (her : ∀ c p, c ≠ 0 ∧ c < 5 → pzE n by_ (pzSt n by_ t s) = .error (c, p) → ∀ nx st k v row, Q nx st k v (iI (c : Nat)) (iI (p : Nat)) row) : wp_X11_parseStatement (iI (n:Nat)) (iI (t.2.2.1:Nat)) (iI (t.2.1:Nat)) (iI (t.1:Nat)) t_value 0 t_errorPlace t_input t_row Q := by
  have body : ∀ (t2 : TK) s2 tv row, TG n t2 → rvP n by_ t2 tv → WF s2 → nzP s2 row → pzSt n by_ t s = .ok (t2, s2) → wp_X11_parseStatement_b94 (iI (n : Nat)) t_input Q (iI (t2.2.2.1 : Nat)) (iI (t2.2.1 : Nat)) (iI (t2.1 : Nat)) tv 0 t_errorPlace row := by
    intro t2 s2 tv row G2 R2 W2 N2 e
    unfold wp_X11_parseStatement_b94
    exact sp_semicolon hT G2 R2 (fun t3 tv3 G3 R3 h4 => hok t3 s2 tv3 row G3 R3 W2 N2 (by simp only [pzE, e, h4])) (fun c p hc h4 nx st k v => her c p hc (by simp only [pzE, e, h4]) _ _ _ _ _)
  have bad : ∀ c p, c ≠ 0 ∧ c < 5 → pzSt n by_ t s = .error (c, p) → ∀ nx st k v row, wp_X11_parseStatement_b94 (iI (n : Nat)) t_input Q nx st k v (iI (c : Nat)) (iI (p : Nat)) row := by
    intro c p hc e nx st k v row
    unfold wp_X11_parseStatement_b94
    exact sp_semicolonE (iI_ne0 hc) fun nx st k v => her c p hc (by simp only [pzE, e]) _ _ _ _ _
  unfold wp_X11_parseStatement
  refine sp_isWord11 hT gIt hG ?_
  cases h1 : isW by_ t wIt with
  | true =>
    have eS : pzSt n by_ t s = pzIt n by_ t s := by simp only [pzSt, h1, if_true]
    rw [eS] at body bad
    exact ⟨fun z => absurd z (by decide), fun _ => sp_parseItem hT hG hW hN body bad⟩
  | false =>
    refine ⟨fun _ => sp_isWord11 hT gBar hG ?_, fun z => absurd rfl z⟩
    cases h2 : isW by_ t wBar with
    | true =>
      have eS : pzSt n by_ t s = pzPr n by_ 3 t s := by simp only [pzSt, h1, h2, if_true, Bool.false_eq_true, if_false]
      rw [eS] at body bad
      refine ⟨fun z => absurd z (by decide), fun _ => ?_⟩
      rw [show (3 : Int32) = iI (3 : Nat) from rfl]
      exact sp_parsePair hT hG hW hN (Or.inl rfl) body bad
    | false =>
      refine ⟨fun _ => sp_isWord11 hT gNeed hG ?_, fun z => absurd rfl z⟩
      cases h3 : isW by_ t wNeed with
      | true =>
        have eS : pzSt n by_ t s = pzPr n by_ 4 t s := by simp only [pzSt, h1, h2, h3, if_true, Bool.false_eq_true, if_false]
        rw [eS] at body bad
        refine ⟨fun z => absurd z (by decide), fun _ => ?_⟩
        rw [show (4 : Int32) = iI (4 : Nat) from rfl]
        exact sp_parsePair hT hG hW hN (Or.inr rfl) body bad
      | false =>
        refine ⟨fun _ => sp_isWord11 hT gMust hG ?_, fun z => absurd rfl z⟩
        cases h4 : isW by_ t wMust with
        | true =>
          have eS : pzSt n by_ t s = pzOn n by_ 3 t s := by simp only [pzSt, h1, h2, h3, h4, if_true, Bool.false_eq_true, if_false]
          rw [eS] at body bad
          refine ⟨fun z => absurd z (by decide), fun _ => ?_⟩
          rw [show (3 : Int32) = iI (3 : Nat) from rfl]
          exact sp_parseOne hT hG hW hN (Or.inl rfl) body bad
        | false =>
          refine ⟨fun _ => sp_isWord11 hT gNev hG ?_, fun z => absurd rfl z⟩
          cases h5 : isW by_ t wNev with
          | true =>
            have eS : pzSt n by_ t s = pzOn n by_ 4 t s := by simp only [pzSt, h1, h2, h3, h4, h5, if_true, Bool.false_eq_true, if_false]
            rw [eS] at body bad
            refine ⟨fun z => absurd z (by decide), fun _ => ?_⟩
            rw [show (4 : Int32) = iI (4 : Nat) from rfl]
            exact sp_parseOne hT hG hW hN (Or.inr rfl) body bad
          | false =>
            have eS : pzSt n by_ t s = .error (1, t.2.1) := by simp only [pzSt, h1, h2, h3, h4, h5, Bool.false_eq_true, if_false]
            exact ⟨fun _ => sp_errs (bad 1 t.2.1 (by omega) eS _ _ _ _ _), fun z => absurd rfl z⟩
theorem sl_load74E {t_input : Nat → Int32} {t_thrown : Int32} {t_inputSize : Int32} {t_textSize : Int32} {t_remembered : Int32} {t_net : Nat → Int32} {t_past : Nat → Int32} {k95 : Int32 → Int32 → Int32 → Int32 → Int32 → Int32 → (Nat → Int32) → Prop} {Q : Int32 → Int32 → Int32 → Int32 → Int32 → Int32 → Int32 → Int32 → Int32 → Int32 → Int32 → (Nat → Int32) → (Nat → Int32) → (Nat → Int32) → Prop} {nx st k v ef ep : Int32} {row : Nat → Int32} (he : ef ≠ 0) (hQ : k95 nx st k v ef ep row) (m : Nat) : wp_X11_load_L74 t_input t_thrown t_inputSize t_textSize t_remembered t_net t_past k95 Q (m + 1) nx st k v ef ep row := by
  unfold wp_X11_load_L74 wp_X11_good
  exact ⟨fun _ => ⟨fun _ => hQ, fun z => absurd rfl z⟩, fun z => absurd z he⟩
theorem sl_load74 {n : Nat} {by_ : Nat → Int} {t_input : Nat → Int32} {t_thrown : Int32} {t_inputSize : Int32} {t_remembered : Int32} {t_net : Nat → Int32} {t_past : Nat → Int32} {k95 : Int32 → Int32 → Int32 → Int32 → Int32 → Int32 → (Nat → Int32) → Prop} {Q : Int32 → Int32 → Int32 → Int32 → Int32 → Int32 → Int32 → Int32 → Int32 → Int32 → Int32 → (Nat → Int32) → (Nat → Int32) → (Nat → Int32) → Prop} (hT : txP n by_ t_input) {ep : Int32} {r : Except ER (Nat → Nat)} (hok : ∀ s2, r = .ok s2 → ∀ nx st k v row, WF s2 → nzP s2 row → k95 nx st k v 0 ep row) (her : ∀ c p, c ≠ 0 ∧ c < 5 → r = .error (c, p) → ∀ nx st k v row, k95 nx st k v (iI (c : Nat)) (iI (p : Nat)) row) :
    ∀ (f i : Nat) (t : TK) (s : Nat → Nat) (tv : Int32) (row : Nat → Int32), i + f = 600 → i ≤ t.2.1 → TG n t → TH n t → WF s → nzP s row → pzL n by_ (f + 1) t s = r → wp_X11_load_L74 t_input t_thrown t_inputSize (iI (n:Nat)) t_remembered t_net t_past k95 Q (f + 2) (iI (t.2.2.1 : Nat)) (iI (t.2.1 : Nat)) (iI (t.1 : Nat)) tv 0 ep row := by
  have hn := hT.1
  intro f
  induction f with
  | zero =>
    intro i t s tv row hi h1 hG hH hW hN hr
    have g3 := hG.2.2.1
    have g2 := hG.2.1
    have k0 : t.1 = 0 := by
      by_cases c : t.1 = 0
      · exact c
      · have := (hH c).1; omega
    simp only [pzL] at hr
    rw [if_pos k0] at hr
    unfold wp_X11_load_L74 wp_X11_good
    refine ⟨fun z => absurd rfl z, fun _ => ⟨fun z => absurd z (by decide), fun _ => ⟨fun _ => hok s hr.symm _ _ _ _ _ hW hN, fun z => absurd (by rw [k0]; exact (iI_lit 0).symm) z⟩⟩⟩
  | succ f ih =>
    intro i t s tv row hi h1 hG hH hW hN hr
    have g1 := hG.1
    have k0 : (iI (t.1 : Nat) = 0) ↔ t.1 = 0 := by
      rw [iI_lit 0, iI_eq (by omega) (by omega) (by omega) (by omega)]
      omega
    unfold wp_X11_load_L74
    rw [k0]
    unfold wp_X11_good
    rw [pzL] at hr
    refine ⟨fun z => absurd rfl z, fun _ => ⟨fun z => absurd z (by decide), fun _ => ⟨fun c => ?_, fun c => ?_⟩⟩⟩
    · rw [if_pos c] at hr
      exact hok s hr.symm _ _ _ _ _ hW hN
    · rw [if_neg c] at hr
      refine sp_parseStatement hT hG hW hN (fun t2 s2 tv2 row2 G2 R2 W2 N2 hh => ?_) (fun c p hc hh nx st k v row2 => ?_)
      · rw [hh] at hr
        obtain ⟨-, H2, m2⟩ := pzE_st hG hH hh
        exact ih (i + 1) t2 s2 _ _ (by omega) (by omega) G2 H2 W2 N2 hr
      · rw [hh] at hr
        exact sl_load74E (iI_ne0 hc) (her c p hc hr.symm _ _ _ _ _) (f + 1)
theorem sl_load35 {t_input : Nat → Int32} {t_thrown : Int32} {t_inputSize : Int32} {t_textSize : Int32} {t_next : Int32} {t_start : Int32} {t_token : Int32} {t_value : Int32} {t_errorFound : Int32} {t_errorPlace : Int32} {t_remembered : Int32} {t_net : Nat → Int32} {t_past : Nat → Int32} {k54 : (Nat → Int32) → Prop} {Q : Int32 → Int32 → Int32 → Int32 → Int32 → Int32 → Int32 → Int32 → Int32 → Int32 → Int32 → (Nat → Int32) → (Nat → Int32) → (Nat → Int32) → Prop} (hQ : ∀ row, (∀ i, i < 66 → row i = 0) → k54 row) : ∀ (d x : Nat) (row : Nat → Int32), x + d = 66 → (∀ i, i < x → row i = 0) → wp_X11_load_L35 t_input t_thrown t_inputSize t_textSize t_next t_start t_token t_value t_errorFound t_errorPlace t_remembered t_net t_past k54 Q (d + 1) (iI (x : Nat)) row := by
  intro d
  induction d with
  | zero =>
    intro x row hx h
    unfold wp_X11_load_L35
    rw [show (66 : Int32) = iI 66 from rfl, iI_le (by omega) (by omega) (by omega) (by omega)]
    exact ⟨fun _ => hQ row fun i hi => h i (by omega), fun z => by omega⟩
  | succ d ih =>
    intro x row hx h
    unfold wp_X11_load_L35
    rw [show (66 : Int32) = iI 66 from rfl, iI_le (by omega) (by omega) (by omega) (by omega), iI_clN (by omega), iI_s1]
    refine ⟨fun z => by omega, fun _ => ⟨in_lit (by omega) (by omega), ih (x + 1) _ (by omega) fun i hi => ?_⟩⟩
    by_cases e : i = x
    · rw [e, pk_us]
    · rw [pk_un e]; exact h i (by omega)
theorem sl_load119 {t_input : Nat → Int32} {t_thrown : Int32} {t_inputSize : Int32} {t_textSize : Int32} {t_next : Int32} {t_start : Int32} {t_token : Int32} {t_value : Int32} {t_errorFound : Int32} {t_errorPlace : Int32} {t_remembered : Int32} {t_draft : Nat → Int32} {t_past : Nat → Int32} {Q : Int32 → Int32 → Int32 → Int32 → Int32 → Int32 → Int32 → Int32 → Int32 → Int32 → Int32 → (Nat → Int32) → (Nat → Int32) → (Nat → Int32) → Prop} (hQ : ∀ net, (∀ i, i < 66 → net i = t_draft i) → wp_X11_many net (fun r => Q r t_thrown t_inputSize t_textSize t_next t_start t_token t_value t_errorFound t_errorPlace t_remembered t_draft net t_past)) : ∀ (d x : Nat) (net : Nat → Int32), x + d = 66 → (∀ i, i < x → net i = t_draft i) → wp_X11_load_L119 t_input t_thrown t_inputSize t_textSize t_next t_start t_token t_value t_errorFound t_errorPlace t_remembered t_draft t_past Q (d + 1) (iI (x : Nat)) net := by
  intro d
  induction d with
  | zero =>
    intro x row hx h
    unfold wp_X11_load_L119
    rw [show (66 : Int32) = iI 66 from rfl, iI_le (by omega) (by omega) (by omega) (by omega)]
    exact ⟨fun _ => hQ row fun i hi => h i (by omega), fun z => by omega⟩
  | succ d ih =>
    intro x row hx h
    unfold wp_X11_load_L119
    rw [show (66 : Int32) = iI 66 from rfl, iI_le (by omega) (by omega) (by omega) (by omega), iI_clN (by omega), iI_s1]
    refine ⟨fun z => by omega, fun _ => ⟨in_lit (by omega) (by omega), in_lit (by omega) (by omega), ih (x + 1) _ (by omega) fun i hi => ?_⟩⟩
    by_cases e : i = x
    · rw [e, pk_us]
    · rw [pk_un e]; exact h i (by omega)
theorem neP_cg {s : Nat → Nat} (hW : WF s) {row net : Nat → Int32} (h : neP s row) (e : ∀ i, i < 66 → net i = row i) : neP s net := by
  have := hW.1
  refine ⟨fun k hk => ?_, fun k w hk hw => ?_⟩
  · rw [e _ (by omega)]; exact h.1 k hk
  · rw [e _ (by omega)]; exact h.2 k w hk hw
theorem sr_load {n : Nat} {by_ : Nat → Int} {s : Nat → Nat} (hW : WF s) {ps : List (Nat → Nat)} (hl : ps.length ≤ 8) (hw : ∀ t ∈ ps, WF t) {t_thrown : Int32} {t_textSize : Int32} {t_next : Int32} {t_start : Int32} {t_token : Int32} {t_value : Int32} {t_errorFound : Int32} {t_errorPlace : Int32} {t_remembered : Int32} {t_draft : Nat → Int32} {t_input : Nat → Int32} {t_net : Nat → Int32} {t_past : Nat → Int32} {Q : Int32 → Int32 → Int32 → Int32 → Int32 → Int32 → Int32 → Int32 → Int32 → Int32 → Int32 → (Nat → Int32) → (Nat → Int32) → (Nat → Int32) → Prop} (hT : txP n by_ t_input) (hP : prP ps t_remembered t_past) (hN : neP s t_net) (hok : ∀ s2, WF s2 → pzT n by_ = .ok s2 → ∀ nx st k v rem dr net past, prP (pshL ps s) rem past → neP s2 net → Q (iI (s2 0 : Nat)) 0 0 (iI (n : Nat)) nx st k v 0 (-1) rem dr net past) (her : ∀ c p, c ≠ 0 ∧ c < 5 → pzT n by_ = .error (c, p) → ∀ nx st k v dr, Q (-4) 0 0 (iI (n : Nat)) nx st k v (iI (c : Nat)) (iI (p : Nat)) t_remembered dr t_net t_past) : wp_X11_load t_thrown (iI (n:Nat)) t_textSize t_next t_start t_token t_value t_errorFound t_errorPlace t_remembered t_draft t_input t_net t_past Q := by
  unfold wp_X11_load
  refine ⟨67, sl_load35 (fun row0 hz => ?_) 66 0 t_draft (by omega) (fun i hi => by omega)⟩
  have sc := fun {Q : Int32 → Int32 → Int32 → Int32 → Prop} => sp_scan (t_start := t_start) (t_token := t_token) (t_value := t_value) (Q := Q) hT (p := 0) (by omega)
  refine sc fun tv0 R0 => ?_
  have fin : ∀ c p, c ≠ 0 ∧ c < 5 → pzT n by_ = .error (c, p) → ∀ nx st k v row, wp_X11_good (iI (c : Nat)) (fun r104 => (¬ r104 = 0 → (wp_X11_remember t_remembered t_past t_net (fun u25 u26 => ∃ n119, wp_X11_load_L119 t_input 0 0 (iI (n : Nat)) nx st k v (iI (c : Nat)) (iI (p : Nat)) u25 row u26 Q n119 0 t_net))) ∧ (r104 = 0 → (Q (-4) 0 0 (iI (n : Nat)) nx st k v (iI (c : Nat)) (iI (p : Nat)) t_remembered row t_net t_past))) := by
    intro c p hc e nx st k v row
    unfold wp_X11_good
    exact ⟨fun _ => ⟨fun z => absurd rfl z, fun _ => her c p hc e _ _ _ _ _⟩, fun z => absurd z (iI_ne0 hc)⟩
  refine sp_parseFirst hT (TG_tkn (by omega)) (fun c l t2 tv G2 R2 hc hl2 h2 => ?_) (fun c p hc h2 nx st k v row => ?_)
  · have N0 : nzP (pz0 c l) (upd (upd row0 1 (iI (c : Nat))) 2 (iI (l : Nat))) := by
      refine ⟨⟨fun k hk => ?_, fun k w hk hw => by have : pz0 c l 0 = 0 := rfl; omega⟩, fun i hi hi2 => ?_⟩
      · by_cases e2 : k = 2
        · subst e2; rw [pk_us]; rfl
        · rw [pk_un e2]
          by_cases e1 : k = 1
          · subst e1; rw [pk_us]; rfl
          · rw [pk_un e1, hz k (by omega)]
            unfold pz0
            rw [if_neg e1, if_neg e2]
            exact iI_lit 0
      · have : pz0 c l 0 = 0 := rfl
        rw [pk_un (by omega), pk_un (by omega)]
        exact hz i hi2
    refine sp_semicolon hT G2 R2 (fun t3 tv3 G3 R3 h4 => ⟨602, ?_⟩) (fun c p hc h4 nx st k v => ⟨1, ?_⟩)
    · have hh : pzFr n by_ (tkn n by_ 0) = .ok ((c, l), t3) := by simp only [pzFr, h2, h4]
      have e : pzT n by_ = pzL n by_ 601 t3 (pz0 c l) := by
        unfold pzT
        rw [hh]
      have H3 : TH n t3 := by
        unfold pE at h4
        by_cases z : t2.1 = 3 ∧ by_ t2.2.1 = 59
        · rw [if_pos z] at h4
          simp only [Except.ok.injEq] at h4
          rw [← h4]
          exact TH_tkn
        · rw [if_neg z] at h4
          exact absurd h4 (by simp)
      refine sl_load74 hT (fun s2 e2 nx st k v row W2 N2 => ?_) (fun c p hc e2 nx st k v row => fin c p hc e2 _ _ _ _ _) 600 0 t3 (pz0 c l) tv3 _ (by omega) (by omega) G3 H3 (WF_pz0 hc hl2) N0 e.symm
      unfold wp_X11_good
      refine ⟨fun z => absurd rfl z, fun _ => ⟨fun _ => sr_remember hW hl hw hP hN fun rem past hp => ⟨67, ?_⟩, fun z => absurd z (by decide)⟩⟩
      refine sl_load119 (fun net hne => ?_) 66 0 t_net (by omega) (fun i hi => by omega)
      have N3 := neP_cg W2 N2.1 hne
      exact sp_many N3 (hok s2 W2 e2 _ _ _ _ _ _ _ _ hp N3)
    · exact sl_load74E (iI_ne0 hc) (fin c p hc (by simp only [pzT, pzFr, h2, h4]) _ _ _ _ _) 0
  · exact sp_semicolonE (iI_ne0 hc) fun nx st k v => ⟨1, sl_load74E (iI_ne0 hc) (fin c p hc (by simp only [pzT, pzFr, h2]) _ _ _ _ _) 0⟩
