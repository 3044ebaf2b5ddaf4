/-! THE CLASS'S STATEMENTS -/
abbrev wCap : List Int32 := [99, 97, 112, 97, 99, 105, 116, 121]
abbrev wLim : List Int32 := [108, 105, 109, 105, 116]
abbrev wIt : List Int32 := [105, 116, 101, 109]
abbrev wBar : List Int32 := [98, 97, 114]
abbrev wNeed : List Int32 := [110, 101, 101, 100]
abbrev wMust : List Int32 := [109, 117, 115, 116]
abbrev wNev : List Int32 := [110, 101, 118, 101, 114]
abbrev wWe : List Int32 := [119, 101, 105, 103, 104, 116]
abbrev wGa : List Int32 := [103, 97, 105, 110]
abbrev wJo : List Int32 := [106, 111, 121]
theorem gCap : gW wCap := gW_of (by decide) (by decide +kernel)
theorem gLim : gW wLim := gW_of (by decide) (by decide +kernel)
theorem gIt : gW wIt := gW_of (by decide) (by decide +kernel)
theorem gBar : gW wBar := gW_of (by decide) (by decide +kernel)
theorem gNeed : gW wNeed := gW_of (by decide) (by decide +kernel)
theorem gMust : gW wMust := gW_of (by decide) (by decide +kernel)
theorem gNev : gW wNev := gW_of (by decide) (by decide +kernel)
theorem gWe : gW wWe := gW_of (by decide) (by decide +kernel)
theorem gGa : gW wGa := gW_of (by decide) (by decide +kernel)
theorem gJo : gW wJo := gW_of (by decide) (by decide +kernel)
def pzFb (n : Nat) (by_ : Nat → Int) (t : TK) : Except ER ((Nat × Nat) × TK) := match pB n by_ wCap 999 t with
  | .error e => .error e
  | .ok (c, t2) => match pB n by_ wLim 12 t2 with
    | .error e => .error e
    | .ok (l, t3) => .ok ((c, l), t3)
def pzFr (n : Nat) (by_ : Nat → Int) (t : TK) : Except ER ((Nat × Nat) × TK) := match pzFb n by_ t with
  | .error e => .error e
  | .ok (cl, t3) => match pE n by_ t3 with
    | .error e => .error e
    | .ok t4 => .ok (cl, t4)
abbrev PzR := Except ER (TK × (Nat → Nat))
def pzE (n : Nat) (by_ : Nat → Int) (r : PzR) : PzR := match r with
  | .error e => .error e
  | .ok (t2, s2) => match pE n by_ t2 with
    | .error e => .error e
    | .ok t3 => .ok (t3, s2)
def pzIt (n : Nat) (by_ : Nat → Int) (t : TK) (s : Nat → Nat) : PzR := if s 0 < 12 then
    match pB n by_ wWe 99 (nxt n by_ t) with
    | .error e => .error e
    | .ok (a, t2) => match pB n by_ wGa 99 t2 with
      | .error e => .error e
      | .ok (b, t3) => match pB n by_ wJo 99 t3 with
        | .error e => .error e
        | .ok (c, t4) => .ok (t4, adS s a b c)
  else .error (4, t.2.1)
def pzS (w a b : Nat) (s : Nat → Nat) : Nat → Nat := if w = 3 then barS s a b true else su s (6 + 5 * a + w) (tb (s (6 + 5 * a + w)) b true)
def pzPr (n : Nat) (by_ : Nat → Int) (w : Nat) (t : TK) (s : Nat → Nat) : PzR := match pN n by_ ((s 0 : Int) - 1) (nxt n by_ t) with
  | .error e => .error e
  | .ok (a, t2) => match cN ((s 0 : Int) - 1) t2 with
    | .error e => .error e
    | .ok b => if b = a ∨ (s (6 + 5 * a + w)).testBit b = true then .error (3, t2.2.1) else .ok (nxt n by_ t2, pzS w a b s)
def pzOn (n : Nat) (by_ : Nat → Int) (k : Nat) (t : TK) (s : Nat → Nat) : PzR := match cN ((s 0 : Int) - 1) (nxt n by_ t) with
  | .error e => .error e
  | .ok a => if (s k).testBit a = true then .error (3, (nxt n by_ t).2.1) else .ok (nxt n by_ (nxt n by_ t), su s k (tb (s k) a true))
def pzSt (n : Nat) (by_ : Nat → Int) (t : TK) (s : Nat → Nat) : PzR :=
  if isW by_ t wIt = true then pzIt n by_ t s
  else if isW by_ t wBar = true then pzPr n by_ 3 t s
  else if isW by_ t wNeed = true then pzPr n by_ 4 t s
  else if isW by_ t wMust = true then pzOn n by_ 3 t s
  else if isW by_ t wNev = true then pzOn n by_ 4 t s
  else .error (1, t.2.1)
theorem iI_nm1 {v : Nat} (h : v < 5000) : iI (v : Nat) ≠ -1 := by
  intro z
  rw [show (-1 : Int32) = iI (-1) from rfl, iI_eq (by omega) (by omega) (by omega) (by omega)] at z
  omega
theorem sp_readFrame {n : Nat} {by_ : Nat → Int} {t_code : Int32} {t_place : Int32} {t_text : Nat → Int32} {t_draft_capacity : Int32} {t_draft_limit : Int32} {Q : Int32 → Int32 → Int32 → Int32 → Int32 → Int32 → Int32 → Int32 → Int32 → Prop} (hT : txP n by_ t_text) {t : TK} (hG : TG n t) (hok : ∀ c l t2, TG n t2 → c ≤ 999 → l ≤ 12 → pzFr n by_ t = .ok ((c, l), t2) → Q 1 t_code t_place (iI (t2.1 : Nat)) (iI (t2.2.1 : Nat)) (iI (t2.2.2.1 : Nat)) (iI t2.2.2.2) (iI (c : Nat)) (iI (l : Nat))) (her : ∀ c p, pzFr n by_ t = .error (c, p) → ∀ k st nx v cap lim, Q 0 (iI (c : Nat)) (iI (p : Nat)) k st nx v cap lim) : wp_X5_readFrame t_code t_place (iI (n:Nat)) (iI (t.1:Nat)) (iI (t.2.1:Nat)) (iI (t.2.2.1:Nat)) (iI t.2.2.2) t_text t_draft_capacity t_draft_limit Q := by
  unfold wp_X5_readFrame
  rw [show (999 : Int32) = iI 999 from rfl, show (12 : Int32) = iI 12 from rfl]
  refine sp_passWord hT gCap hG (fun t1 G1 h1 => ⟨fun z => absurd z (by decide), fun _ => ?_⟩) (fun c p h1 k st nx v => ⟨fun _ => her c p (by simp only [pzFr, pzFb, pB, h1]) _ _ _ _ _ _, fun z => absurd rfl z⟩)
  refine sp_passNumber hT G1 (by omega) (fun a t2 G2 l2 h2 => ⟨fun _ => ?_, fun z => absurd z (iI_nm1 (by omega))⟩) (fun c p h2 k st nx v => ⟨fun z => absurd rfl z, fun _ => her c p (by simp only [pzFr, pzFb, pB, h1, h2]) _ _ _ _ _ _⟩)
  refine sp_passWord hT gLim G2 (fun t3 G3 h3 => ⟨fun z => absurd z (by decide), fun _ => ?_⟩) (fun c p h3 k st nx v => ⟨fun _ => her c p (by simp only [pzFr, pzFb, pB, h1, h2, h3]) _ _ _ _ _ _, fun z => absurd rfl z⟩)
  refine sp_passNumber hT G3 (by omega) (fun b t4 G4 l4 h4 => ⟨fun z => absurd z (iI_nm1 (by omega)), fun _ => ?_⟩) (fun c p h4 k st nx v => ⟨fun _ => her c p (by simp only [pzFr, pzFb, pB, h1, h2, h3, h4]) _ _ _ _ _ _, fun z => absurd rfl z⟩)
  exact sp_passEnd hT G4 (fun t5 G5 h5 => ⟨fun z => absurd z (by decide), fun _ => hok a b t5 G5 (by omega) (by omega) (by simp only [pzFr, pzFb, pB, h1, h2, h3, h4, h5])⟩) (fun c p h5 k st nx v => ⟨fun _ => her c p (by simp only [pzFr, pzFb, pB, h1, h2, h3, h4, h5]) _ _ _ _ _ _, fun z => absurd rfl z⟩)
theorem sp_readItem {n : Nat} {by_ : Nat → Int} {t_code : Int32} {t_place : Int32} {t_draft_items : Int32} {t_text : Nat → Int32} {t_draft_weight : Nat → Int32} {t_draft_gain : Nat → Int32} {t_draft_joy : Nat → Int32} {t_draft_bars : Nat → Int32} {t_draft_needs : Nat → Int32} {Q : Int32 → Int32 → Int32 → Int32 → Int32 → Int32 → Int32 → Int32 → (Nat → Int32) → (Nat → Int32) → (Nat → Int32) → (Nat → Int32) → (Nat → Int32) → Prop} (hT : txP n by_ t_text) {t : TK} (hG : TG n t) {s : Nat → Nat} (hW : WF s) {cap lim mus nev hand : Int32} (hS : suP s t_draft_items cap lim mus nev hand t_draft_weight t_draft_gain t_draft_joy t_draft_bars t_draft_needs) (hok : ∀ t2 s2 items w g j b nd, TG n t2 → WF s2 → suP s2 items cap lim mus nev hand w g j b nd → pzE n by_ (pzIt n by_ t s) = .ok (t2, s2) → Q 1 t_code t_place (iI (t2.1 : Nat)) (iI (t2.2.1 : Nat)) (iI (t2.2.2.1 : Nat)) (iI t2.2.2.2) items w g j b nd) (her : ∀ c p, pzE n by_ (pzIt n by_ t s) = .error (c, p) → ∀ k st nx v items w g j b nd, Q 0 (iI (c : Nat)) (iI (p : Nat)) k st nx v items w g j b nd) : wp_X5_readItem t_code t_place (iI (n:Nat)) (iI (t.1:Nat)) (iI (t.2.1:Nat)) (iI (t.2.2.1:Nat)) (iI t.2.2.2) t_draft_items t_text t_draft_weight t_draft_gain t_draft_joy t_draft_bars t_draft_needs Q := by
  have h12 := hW.1
  unfold wp_X5_readItem
  rw [show (99 : Int32) = iI 99 from rfl]
  have e0 := hS.1
  have ei : (t_draft_items < 12) ↔ s 0 < 12 := by
    rw [e0, iI_lit 12, iI_lt (by omega) (by omega) (by omega) (by omega)]
    omega
  rw [ei]
  refine ⟨fun h0 => ?_, fun h0 => ?_⟩
  · refine sp_advance hT hG.2.2.1 ?_
    refine sp_passWord hT gWe (TG_nxt hG) (fun t1 G1 h1 => ⟨fun z => absurd z (by decide), fun _ => ?_⟩) (fun c p h1 k st nx v => ⟨fun _ => her c p (by simp only [pzE, pzIt, if_pos h0, pB, h1]) _ _ _ _ _ _ _ _ _ _, fun z => absurd rfl z⟩)
    refine sp_passNumber hT G1 (by omega) (fun a t2 G2 l2 h2 => ⟨fun _ => ?_, fun z => absurd z (iI_nm1 (by omega))⟩) (fun c p h2 k st nx v => ⟨fun z => absurd rfl z, fun _ => her c p (by simp only [pzE, pzIt, if_pos h0, pB, h1, h2]) _ _ _ _ _ _ _ _ _ _⟩)
    refine sp_passWord hT gGa G2 (fun t3 G3 h3 => ⟨fun z => absurd z (by decide), fun _ => ?_⟩) (fun c p h3 k st nx v => ⟨fun _ => her c p (by simp only [pzE, pzIt, if_pos h0, pB, h1, h2, h3]) _ _ _ _ _ _ _ _ _ _, fun z => absurd rfl z⟩)
    refine sp_passNumber hT G3 (by omega) (fun b t4 G4 l4 h4 => ⟨fun _ => ?_, fun z => absurd z (iI_nm1 (by omega))⟩) (fun c p h4 k st nx v => ⟨fun z => absurd rfl z, fun _ => her c p (by simp only [pzE, pzIt, if_pos h0, pB, h1, h2, h3, h4]) _ _ _ _ _ _ _ _ _ _⟩)
    refine sp_passWord hT gJo G4 (fun t5 G5 h5 => ⟨fun z => absurd z (by decide), fun _ => ?_⟩) (fun c p h5 k st nx v => ⟨fun _ => her c p (by simp only [pzE, pzIt, if_pos h0, pB, h1, h2, h3, h4, h5]) _ _ _ _ _ _ _ _ _ _, fun z => absurd rfl z⟩)
    refine sp_passNumber hT G5 (by omega) (fun d t6 G6 l6 h6 => ⟨fun _ => ?_, fun z => absurd z (iI_nm1 (by omega))⟩) (fun c p h6 k st nx v => ⟨fun z => absurd rfl z, fun _ => her c p (by simp only [pzE, pzIt, if_pos h0, pB, h1, h2, h3, h4, h5, h6]) _ _ _ _ _ _ _ _ _ _⟩)
    refine sp_addLast h0 hS fun items w g j b2 nd hS2 => ?_
    exact sp_passEnd hT G6 (fun t7 G7 h7 => ⟨rfl, hok t7 _ _ _ _ _ _ _ G7 (WF_adS hW h0 (by omega) (by omega) (by omega)) hS2 (by simp only [pzE, pzIt, if_pos h0, pB, h1, h2, h3, h4, h5, h6, h7])⟩) (fun c p h7 k st nx v => ⟨rfl, her c p (by simp only [pzE, pzIt, if_pos h0, pB, h1, h2, h3, h4, h5, h6, h7]) _ _ _ _ _ _ _ _ _ _⟩)
  · unfold wp_X5_fail
    exact ⟨rfl, her 4 t.2.1 (by simp only [pzE, pzIt, if_neg h0]) _ _ _ _ _ _ _ _ _ _⟩
theorem iI_sub1 (n : Nat) : iI (n : Nat) - 1 = iI ((n : Int) - 1) := by
  rw [show (1 : Int32) = iI 1 from rfl, iI_sub]
theorem sp_readPair3 {n : Nat} {by_ : Nat → Int} {t_code : Int32} {t_place : Int32} {t_text : Nat → Int32} {t_draft_bars : Nat → Int32} {t_draft_needs : Nat → Int32} {Q : Int32 → Int32 → Int32 → Int32 → Int32 → Int32 → Int32 → (Nat → Int32) → (Nat → Int32) → Prop} (hT : txP n by_ t_text) {t : TK} (hG : TG n t) {s : Nat → Nat} (hW : WF s) {cap lim mus nev hand : Int32} {w g j : Nat → Int32} (hS : suP s (iI (s 0)) cap lim mus nev hand w g j t_draft_bars t_draft_needs) (hok : ∀ t2 s2 b nd, TG n t2 → WF s2 → suP s2 (iI (s 0)) cap lim mus nev hand w g j b nd → pzE n by_ (pzPr n by_ 3 t s) = .ok (t2, s2) → Q 1 t_code t_place (iI (t2.1 : Nat)) (iI (t2.2.1 : Nat)) (iI (t2.2.2.1 : Nat)) (iI t2.2.2.2) b nd) (her : ∀ c p, pzE n by_ (pzPr n by_ 3 t s) = .error (c, p) → ∀ k st nx v b nd, Q 0 (iI (c : Nat)) (iI (p : Nat)) k st nx v b nd) : wp_X5_readPair 1 t_code t_place (iI (n:Nat)) (iI (t.1:Nat)) (iI (t.2.1:Nat)) (iI (t.2.2.1:Nat)) (iI t.2.2.2) t_text (iI (s 0)) t_draft_bars t_draft_needs Q := by
  have h12 := hW.1
  have hp := wf_pow hW
  unfold wp_X5_readPair
  rw [iI_sub1]
  refine sp_advance hT hG.2.2.1 ?_
  refine sp_passNumber hT (TG_nxt hG) (by omega) (fun a t2 G2 l2 h2 => ⟨fun z => absurd z (iI_nm1 (by omega)), fun _ => ?_⟩) (fun c p h2 k st nx v => ⟨fun _ => her c p (by simp only [pzE, pzPr, h2]) _ _ _ _ _ _, fun z => absurd rfl z⟩)
  refine sp_checkNumber G2 (by omega) (fun b k2 kv kg h3 => ⟨fun _ => ⟨fun z => absurd z (by decide), fun _ => ?_⟩, fun z => absurd z (by decide)⟩) (fun c p h3 => ⟨fun z => absurd rfl z, fun _ => her c p (by simp only [pzE, pzPr, h2, h3]) _ _ _ _ _ _⟩)
  have ba := (hS.2.2.2.2.2.2 a (by omega)).2.2.2.1
  have bb := (hS.2.2.2.2.2.2 b (by omega)).2.2.2.1
  have wa := (hW.2.2.2.2.2.2 a (by omega)).2.2.2.1
  have wb := (hW.2.2.2.2.2.2 b (by omega)).2.2.2.1
  have err := fun (hc : b = a ∨ (s (6 + 5 * a + 3)).testBit b = true) => her 3 t2.2.1 (by simp only [pzE, pzPr, h2, h3, if_pos hc])
  have e85 : (b = a ∨ (s (6 + 5 * a + 3)).testBit b = true) → ∀ c p k st nx v bs nd, st = iI (t2.2.1 : Nat) → wp_X5_readPair_b85 (iI (n : Nat)) t_text (iI (s 0)) Q c p k st nx v bs nd := by
    intro hc c p k st nx v bs nd hst
    subst hst
    unfold wp_X5_readPair_b85 wp_X5_fail
    exact ⟨rfl, err hc _ _ _ _ _ _⟩
  rw [kv, iI_clN (by omega), iI_clN (by omega), ba, iI_inj4 (by omega) (by omega)]
  refine ⟨fun c => e85 (Or.inl c) _ _ _ _ _ _ _ _ rfl, fun c => ⟨in_lit (by omega) (by omega), sp_hasBit (by omega) (by omega) ?_⟩⟩
  by_cases d : (s (6 + 5 * a + 3)).testBit b = true
  · rw [if_pos d]
    exact ⟨fun z => absurd z (by decide), fun _ => e85 (Or.inr d) _ _ _ _ _ _ _ _ rfl⟩
  · rw [if_neg d]
    refine ⟨fun _ => ⟨in_lit (by omega) (by omega), sp_withBit (on := true) (by omega) (by omega) (by decide) ⟨in_lit (by omega) (by omega), fun z => absurd z (by decide), fun _ => ⟨in_lit (by omega) (by omega), ?_⟩⟩⟩, fun z => absurd rfl z⟩
    rw [pk_un c, bb]
    refine sp_withBit (on := true) (by omega) (by omega) (by decide) ⟨in_lit (by omega) (by omega), ?_⟩
    unfold wp_X5_readPair_b121
    have hc : ¬ (b = a ∨ (s (6 + 5 * a + 3)).testBit b = true) := fun z => z.elim c d
    have e3 : pzS 3 a b s = barS s a b true := if_pos rfl
    have e00 : su s (6 + 5 * a + 3) (tb (s (6 + 5 * a + 3)) b true) 0 = s 0 := su_ne (by omega)
    have hW2 : WF (pzS 3 a b s) := by
      rw [e3]
      exact WF_row (WF_row hW (Or.inr ⟨by omega, by omega, tb_lt wa (by omega)⟩)) (Or.inr ⟨by omega, by omega, by rw [e00]; exact tb_lt wb (by omega)⟩)
    have hS2 := suP_r3 (suP_r3 hS a (tb (s (6 + 5 * a + 3)) b true)) b (tb (s (6 + 5 * b + 3)) a true)
    refine sp_advance hT G2.2.2.1 (sp_passEnd hT (TG_nxt G2) (fun t4 G4 h4 => ⟨rfl, hok t4 (pzS 3 a b s) _ _ G4 hW2 (by rw [e3]; exact hS2) (by simp only [pzE, pzPr, h2, h3, if_neg hc, h4])⟩) (fun c p h4 k st nx v => ⟨rfl, her c p (by simp only [pzE, pzPr, h2, h3, if_neg hc, h4]) _ _ _ _ _ _⟩))
theorem sp_readPair4 {n : Nat} {by_ : Nat → Int} {t_code : Int32} {t_place : Int32} {t_text : Nat → Int32} {t_draft_bars : Nat → Int32} {t_draft_needs : Nat → Int32} {Q : Int32 → Int32 → Int32 → Int32 → Int32 → Int32 → Int32 → (Nat → Int32) → (Nat → Int32) → Prop} (hT : txP n by_ t_text) {t : TK} (hG : TG n t) {s : Nat → Nat} (hW : WF s) {cap lim mus nev hand : Int32} {w g j : Nat → Int32} (hS : suP s (iI (s 0)) cap lim mus nev hand w g j t_draft_bars t_draft_needs) (hok : ∀ t2 s2 b nd, TG n t2 → WF s2 → suP s2 (iI (s 0)) cap lim mus nev hand w g j b nd → pzE n by_ (pzPr n by_ 4 t s) = .ok (t2, s2) → Q 1 t_code t_place (iI (t2.1 : Nat)) (iI (t2.2.1 : Nat)) (iI (t2.2.2.1 : Nat)) (iI t2.2.2.2) b nd) (her : ∀ c p, pzE n by_ (pzPr n by_ 4 t s) = .error (c, p) → ∀ k st nx v b nd, Q 0 (iI (c : Nat)) (iI (p : Nat)) k st nx v b nd) : wp_X5_readPair 0 t_code t_place (iI (n:Nat)) (iI (t.1:Nat)) (iI (t.2.1:Nat)) (iI (t.2.2.1:Nat)) (iI t.2.2.2) t_text (iI (s 0)) t_draft_bars t_draft_needs Q := by
  have h12 := hW.1
  have hp := wf_pow hW
  unfold wp_X5_readPair
  rw [iI_sub1]
  refine sp_advance hT hG.2.2.1 ?_
  refine sp_passNumber hT (TG_nxt hG) (by omega) (fun a t2 G2 l2 h2 => ⟨fun z => absurd z (iI_nm1 (by omega)), fun _ => ?_⟩) (fun c p h2 k st nx v => ⟨fun _ => her c p (by simp only [pzE, pzPr, h2]) _ _ _ _ _ _, fun z => absurd rfl z⟩)
  refine sp_checkNumber G2 (by omega) (fun b k2 kv kg h3 => ⟨fun _ => ⟨fun _ => ?_, fun z => absurd rfl z⟩, fun z => absurd z (by decide)⟩) (fun c p h3 => ⟨fun z => absurd rfl z, fun _ => her c p (by simp only [pzE, pzPr, h2, h3]) _ _ _ _ _ _⟩)
  have ba := (hS.2.2.2.2.2.2 a (by omega)).2.2.2.2
  have wa := (hW.2.2.2.2.2.2 a (by omega)).2.2.2.2
  have err := fun (hc : b = a ∨ (s (6 + 5 * a + 4)).testBit b = true) => her 3 t2.2.1 (by simp only [pzE, pzPr, h2, h3, if_pos hc])
  have e85 : (b = a ∨ (s (6 + 5 * a + 4)).testBit b = true) → ∀ c p k st nx v bs nd, st = iI (t2.2.1 : Nat) → wp_X5_readPair_b85 (iI (n : Nat)) t_text (iI (s 0)) Q c p k st nx v bs nd := by
    intro hc c p k st nx v bs nd hst
    subst hst
    unfold wp_X5_readPair_b85 wp_X5_fail
    exact ⟨rfl, err hc _ _ _ _ _ _⟩
  rw [kv, iI_clN (by omega), ba, iI_inj4 (by omega) (by omega)]
  refine ⟨fun c => e85 (Or.inl c) _ _ _ _ _ _ _ _ rfl, fun c => ⟨in_lit (by omega) (by omega), sp_hasBit (by omega) (by omega) ?_⟩⟩
  by_cases d : (s (6 + 5 * a + 4)).testBit b = true
  · rw [if_pos d]
    exact ⟨fun z => absurd z (by decide), fun _ => e85 (Or.inr d) _ _ _ _ _ _ _ _ rfl⟩
  · rw [if_neg d]
    refine ⟨fun _ => ⟨in_lit (by omega) (by omega), sp_withBit (on := true) (by omega) (by omega) (by decide) ⟨in_lit (by omega) (by omega), fun _ => ?_, fun z => absurd rfl z⟩⟩, fun z => absurd rfl z⟩
    unfold wp_X5_readPair_b121
    have hc : ¬ (b = a ∨ (s (6 + 5 * a + 4)).testBit b = true) := fun z => z.elim c d
    have e3 : pzS 4 a b s = su s (6 + 5 * a + 4) (tb (s (6 + 5 * a + 4)) b true) := if_neg (by omega)
    have hW2 : WF (pzS 4 a b s) := by
      rw [e3]
      exact WF_row hW (Or.inr ⟨by omega, by omega, tb_lt wa (by omega)⟩)
    have hS2 := suP_r4 hS a (tb (s (6 + 5 * a + 4)) b true)
    refine sp_advance hT G2.2.2.1 (sp_passEnd hT (TG_nxt G2) (fun t4 G4 h4 => ⟨rfl, hok t4 (pzS 4 a b s) _ _ G4 hW2 (by rw [e3]; exact hS2) (by simp only [pzE, pzPr, h2, h3, if_neg hc, h4])⟩) (fun c p h4 k st nx v => ⟨rfl, her c p (by simp only [pzE, pzPr, h2, h3, if_neg hc, h4]) _ _ _ _ _ _⟩))
theorem sp_readSingle3 {n : Nat} {by_ : Nat → Int} {t_code : Int32} {t_place : Int32} {t_text : Nat → Int32} {t_draft_mustSet : Int32} {t_draft_neverSet : Int32} {Q : Int32 → Int32 → Int32 → Int32 → Int32 → Int32 → Int32 → Int32 → Int32 → Prop} (hT : txP n by_ t_text) {t : TK} (hG : TG n t) {s : Nat → Nat} (hW : WF s) {cap lim hand : Int32} {w g j b nd : Nat → Int32} (hS : suP s (iI (s 0)) cap lim t_draft_mustSet t_draft_neverSet hand w g j b nd) (hok : ∀ t2 s2 mus nev, TG n t2 → WF s2 → suP s2 (iI (s 0)) cap lim mus nev hand w g j b nd → pzE n by_ (pzOn n by_ 3 t s) = .ok (t2, s2) → Q 1 t_code t_place (iI (t2.1 : Nat)) (iI (t2.2.1 : Nat)) (iI (t2.2.2.1 : Nat)) (iI t2.2.2.2) mus nev) (her : ∀ c p, pzE n by_ (pzOn n by_ 3 t s) = .error (c, p) → ∀ k st nx v mus nev, Q 0 (iI (c : Nat)) (iI (p : Nat)) k st nx v mus nev) : wp_X5_readSingle 1 t_code t_place (iI (n:Nat)) (iI (t.1:Nat)) (iI (t.2.1:Nat)) (iI (t.2.2.1:Nat)) (iI t.2.2.2) t_text (iI (s 0)) t_draft_mustSet t_draft_neverSet Q := by
  have h12 := hW.1
  have hp := wf_pow hW
  have w3 := hW.2.2.2.1
  unfold wp_X5_readSingle
  rw [iI_sub1]
  refine sp_advance hT hG.2.2.1 ?_
  refine sp_checkNumber (TG_nxt hG) (by omega) (fun a k2 kv kg h3 => ⟨fun _ => ⟨fun z => absurd z (by decide), fun _ => ?_⟩, fun z => absurd z (by decide)⟩) (fun c p h3 => ⟨fun z => absurd rfl z, fun _ => her c p (by simp only [pzE, pzOn, h3]) _ _ _ _ _ _⟩)
  have em := hS.2.2.2.1
  subst em
  rw [kv]
  refine sp_hasBit (by omega) (by omega) ?_
  by_cases d : (s 3).testBit a = true
  · rw [if_pos d]
    unfold wp_X5_fail
    exact ⟨fun z => absurd z (by decide), fun _ => ⟨rfl, her 3 _ (by simp only [pzE, pzOn, h3, if_pos d]) _ _ _ _ _ _⟩⟩
  · rw [if_neg d]
    refine ⟨fun _ => ⟨fun z => absurd z (by decide), fun _ => sp_withBit (on := true) (by omega) (by omega) (by decide) ?_⟩, fun z => absurd rfl z⟩
    unfold wp_X5_readSingle_b100
    have hW2 : WF (su s 3 (tb (s 3) a true)) := WF_c hW (Or.inr (Or.inr (Or.inl ⟨rfl, tb_lt w3 (by omega)⟩)))
    have hS2 := suP_3 hS (tb (s 3) a true)
    refine sp_advance hT (TG_nxt hG).2.2.1 (sp_passEnd hT (TG_nxt (TG_nxt hG)) (fun t4 G4 h4 => ⟨rfl, hok t4 _ _ _ G4 hW2 hS2 (by simp only [pzE, pzOn, h3, if_neg d, h4])⟩) (fun c p h4 k st nx v => ⟨rfl, her c p (by simp only [pzE, pzOn, h3, if_neg d, h4]) _ _ _ _ _ _⟩))
theorem sp_readSingle4 {n : Nat} {by_ : Nat → Int} {t_code : Int32} {t_place : Int32} {t_text : Nat → Int32} {t_draft_mustSet : Int32} {t_draft_neverSet : Int32} {Q : Int32 → Int32 → Int32 → Int32 → Int32 → Int32 → Int32 → Int32 → Int32 → Prop} (hT : txP n by_ t_text) {t : TK} (hG : TG n t) {s : Nat → Nat} (hW : WF s) {cap lim hand : Int32} {w g j b nd : Nat → Int32} (hS : suP s (iI (s 0)) cap lim t_draft_mustSet t_draft_neverSet hand w g j b nd) (hok : ∀ t2 s2 mus nev, TG n t2 → WF s2 → suP s2 (iI (s 0)) cap lim mus nev hand w g j b nd → pzE n by_ (pzOn n by_ 4 t s) = .ok (t2, s2) → Q 1 t_code t_place (iI (t2.1 : Nat)) (iI (t2.2.1 : Nat)) (iI (t2.2.2.1 : Nat)) (iI t2.2.2.2) mus nev) (her : ∀ c p, pzE n by_ (pzOn n by_ 4 t s) = .error (c, p) → ∀ k st nx v mus nev, Q 0 (iI (c : Nat)) (iI (p : Nat)) k st nx v mus nev) : wp_X5_readSingle 0 t_code t_place (iI (n:Nat)) (iI (t.1:Nat)) (iI (t.2.1:Nat)) (iI (t.2.2.1:Nat)) (iI t.2.2.2) t_text (iI (s 0)) t_draft_mustSet t_draft_neverSet Q := by
  have h12 := hW.1
  have hp := wf_pow hW
  have w4 := hW.2.2.2.2.1
  unfold wp_X5_readSingle
  rw [iI_sub1]
  refine sp_advance hT hG.2.2.1 ?_
  refine sp_checkNumber (TG_nxt hG) (by omega) (fun a k2 kv kg h3 => ⟨fun _ => ⟨fun _ => ?_, fun z => absurd rfl z⟩, fun z => absurd z (by decide)⟩) (fun c p h3 => ⟨fun z => absurd rfl z, fun _ => her c p (by simp only [pzE, pzOn, h3]) _ _ _ _ _ _⟩)
  have em := hS.2.2.2.2.1
  subst em
  rw [kv]
  refine sp_hasBit (by omega) (by omega) ?_
  by_cases d : (s 4).testBit a = true
  · rw [if_pos d]
    unfold wp_X5_fail
    exact ⟨fun z => absurd z (by decide), fun _ => ⟨rfl, her 3 _ (by simp only [pzE, pzOn, h3, if_pos d]) _ _ _ _ _ _⟩⟩
  · rw [if_neg d]
    refine ⟨fun _ => ⟨fun _ => sp_withBit (on := true) (by omega) (by omega) (by decide) ?_, fun z => absurd rfl z⟩, fun z => absurd rfl z⟩
    unfold wp_X5_readSingle_b100
    have hW2 : WF (su s 4 (tb (s 4) a true)) := WF_c hW (Or.inr (Or.inr (Or.inr (Or.inl ⟨rfl, tb_lt w4 (by omega)⟩))))
    have hS2 := suP_4 hS (tb (s 4) a true)
    refine sp_advance hT (TG_nxt hG).2.2.1 (sp_passEnd hT (TG_nxt (TG_nxt hG)) (fun t4 G4 h4 => ⟨rfl, hok t4 _ _ _ G4 hW2 hS2 (by simp only [pzE, pzOn, h3, if_neg d, h4])⟩) (fun c p h4 k st nx v => ⟨rfl, her c p (by simp only [pzE, pzOn, h3, if_neg d, h4]) _ _ _ _ _ _⟩))
