/-! THE LAW'S TEXT, STATEMENT BY STATEMENT -/
/-- from p on the text is L, to its end n -/
def Rd (n : Nat) (by_ : Nat → Int) (p : Nat) (L : List Int32) : Prop := p + L.length = n ∧ ∀ i, i < L.length → by_ (p + i) = (ch L i : Int)
theorem ch_app {A B : List Int32} {i : Nat} : ch (A ++ B) i = if i < A.length then ch A i else ch B (i - A.length) := by
  unfold ch
  rw [getD_app]
  split <;> rfl
theorem Rd_drop {n : Nat} {by_ : Nat → Int} {p : Nat} {A B : List Int32} (h : Rd n by_ p (A ++ B)) : Rd n by_ (p + A.length) B := by
  obtain ⟨h1, h2⟩ := h
  rw [List.length_append] at h1
  refine ⟨by omega, fun i hi => ?_⟩
  have := h2 (A.length + i) (by rw [List.length_append]; omega)
  rw [ch_app, if_neg (by omega), show A.length + i - A.length = i by omega] at this
  rw [show p + A.length + i = p + (A.length + i) by omega]
  exact this
theorem Rd_at {n : Nat} {by_ : Nat → Int} {p : Nat} {A B : List Int32} (h : Rd n by_ p (A ++ B)) : ∀ i, i < A.length → by_ (p + i) = (ch A i : Int) := by
  intro i hi
  have := h.2 i (by rw [List.length_append]; omega)
  rw [ch_app, if_pos hi] at this
  exact this
theorem Rd_hd {n : Nat} {by_ : Nat → Int} {p : Nat} {x : Int32} {L : List Int32} (h : Rd n by_ p (x :: L)) : p < n ∧ by_ p = (x.toInt.toNat : Int) := by
  have h1 := h.1
  rw [List.length_cons] at h1
  exact ⟨by omega, h.2 0 (by rw [List.length_cons]; omega)⟩
def ltX (x : Int32) : Bool := decide (97 ≤ x.toInt ∧ x.toInt ≤ 122)
def dgX (x : Int32) : Bool := decide (48 ≤ x.toInt ∧ x.toInt ≤ 57)
def blX (x : Int32) : Bool := decide (x.toInt = 32 ∨ x.toInt = 10)
theorem rd_blk {n : Nat} {by_ : Nat → Int} {p : Nat} {sp : List Int32} {x : Int32} {L : List Int32} (hs : sp = [] ∨ sp = [32]) (h : Rd n by_ p (sp ++ (x :: L))) (hx : blX x = false) (h0 : 0 ≤ x.toInt) : bgn n by_ p = p + sp.length := by
  have hx2 : ¬ blc (x.toInt.toNat : Int) := by
    unfold blX at hx
    rw [decide_eq_false_iff_not] at hx
    rw [Int.toNat_of_nonneg h0]
    exact hx
  rcases hs with e | e <;> subst e
  · obtain ⟨a, b⟩ := Rd_hd h
    have hn := h.1
    rw [List.nil_append, List.length_cons] at hn
    show blk n by_ (n - p) p = p + 0
    rw [show n - p = L.length + 1 by omega]
    simp only [blk]
    rw [if_neg (fun z => hx2 (by rw [← b]; exact z.2))]
    rfl
  · obtain ⟨a, b⟩ := Rd_hd h
    obtain ⟨c, d⟩ := Rd_hd (Rd_drop (A := [32]) h)
    have hn := h.1
    rw [List.length_append, List.length_cons] at hn
    simp only [List.length_cons, List.length_nil] at hn c d ⊢
    show blk n by_ (n - p) p = p + (0 + 1)
    rw [show n - p = L.length + 1 + 1 by omega]
    simp only [blk]
    rw [if_pos ⟨a, Or.inl (by rw [b]; rfl)⟩, if_neg (fun z => hx2 (by rw [← d]; exact z.2))]
theorem rd_lts {n : Nat} {by_ : Nat → Int} : ∀ {W : List Int32} {p f : Nat} {c : Int32} {L : List Int32}, Rd n by_ p (W ++ (c :: L)) → (∀ x ∈ W, ltX x = true) → ltX c = false → 0 ≤ c.toInt → W.length ≤ f → lts n by_ f p = p + W.length
  | [], p, f, c, L, h, hW, hc, h0, hf => by
    obtain ⟨a, b⟩ := Rd_hd h
    have hc2 : ¬ ltr (by_ p) := by
      unfold ltX at hc
      rw [decide_eq_false_iff_not] at hc
      rw [b, Int.toNat_of_nonneg h0]
      exact hc
    cases f with
    | zero => rfl
    | succ f => simp only [lts]; rw [if_neg (fun z => hc2 z.2)]; rfl
  | w :: W, p, f, c, L, h, hW, hc, h0, hf => by
    obtain ⟨a, b⟩ := Rd_hd h
    cases f with
    | zero => simp at hf
    | succ f =>
      have hw := hW w (List.mem_cons_self ..)
      unfold ltX at hw
      rw [decide_eq_true_eq] at hw
      simp only [lts]
      rw [if_pos ⟨a, by rw [b, Int.toNat_of_nonneg (by omega)]; exact hw⟩]
      rw [rd_lts (W := W) (p := p + 1) (Rd_drop (A := [w]) h) (fun x hx => hW x (List.mem_cons_of_mem _ hx)) hc h0 (by simp at hf; omega), List.length_cons]
      omega
def dvs (v : Int) (x : Int32) : Int := if 10 * v + (x.toInt.toNat : Int) - 48 < 100000 then 10 * v + (x.toInt.toNat : Int) - 48 else 100000
theorem rd_dgs {n : Nat} {by_ : Nat → Int} : ∀ {W : List Int32} {p f : Nat} {c : Int32} {L : List Int32} {v : Int}, Rd n by_ p (W ++ (c :: L)) → (∀ x ∈ W, dgX x = true) → dgX c = false → 0 ≤ c.toInt → W.length ≤ f → dgs n by_ f p v = (p + W.length, W.foldl dvs v)
  | [], p, f, c, L, v, h, hW, hc, h0, hf => by
    obtain ⟨a, b⟩ := Rd_hd h
    have hc2 : ¬ dgi (by_ p) := by
      unfold dgX at hc
      rw [decide_eq_false_iff_not] at hc
      rw [b, Int.toNat_of_nonneg h0]
      exact hc
    cases f with
    | zero => rfl
    | succ f => simp only [dgs]; rw [if_neg (fun z => hc2 z.2)]; rfl
  | w :: W, p, f, c, L, v, h, hW, hc, h0, hf => by
    obtain ⟨a, b⟩ := Rd_hd h
    cases f with
    | zero => simp at hf
    | succ f =>
      have hw := hW w (List.mem_cons_self ..)
      unfold dgX at hw
      rw [decide_eq_true_eq] at hw
      simp only [dgs]
      rw [if_pos ⟨a, by rw [b, Int.toNat_of_nonneg (by omega)]; exact hw⟩, b]
      rw [rd_dgs (W := W) (p := p + 1) (Rd_drop (A := [w]) h) (fun x hx => hW x (List.mem_cons_of_mem _ hx)) hc h0 (by simp at hf; omega), List.length_cons, List.foldl_cons]
      rw [show p + 1 + W.length = p + (W.length + 1) by omega]
      rfl
theorem tkW {n : Nat} {by_ : Nat → Int} {p : Nat} {sp W : List Int32} {c : Int32} {L : List Int32} (hs : sp = [] ∨ sp = [32]) (h : Rd n by_ p (sp ++ (W ++ (c :: L)))) (hW : W ≠ [] ∧ ∀ x ∈ W, ltX x = true) (hc : ltX c = false ∧ 0 ≤ c.toInt) : tkn n by_ p = (1, p + sp.length, p + sp.length + W.length, 0) := by
  obtain ⟨hW0, hW⟩ := hW
  cases W with
  | nil => exact absurd rfl hW0
  | cons w W =>
    have hw := hW w (List.mem_cons_self ..)
    unfold ltX at hw
    rw [decide_eq_true_eq] at hw
    have hb : blX w = false := by unfold blX; rw [decide_eq_false_iff_not]; omega
    have eb := rd_blk hs h hb (by omega)
    have hd := Rd_drop h
    obtain ⟨a, b⟩ := Rd_hd hd
    have hn := hd.1
    rw [List.length_append] at hn
    have el := rd_lts (f := n - (p + sp.length)) hd hW hc.1 hc.2 (by omega)
    unfold tkn
    rw [eb, if_pos a, if_pos (by rw [b, Int.toNat_of_nonneg (by omega)]; exact hw), el]
theorem tkD {n : Nat} {by_ : Nat → Int} {p : Nat} {sp W : List Int32} {c : Int32} {L : List Int32} (hs : sp = [] ∨ sp = [32]) (h : Rd n by_ p (sp ++ (W ++ (c :: L)))) (hW : W ≠ [] ∧ ∀ x ∈ W, dgX x = true) (hc : dgX c = false ∧ 0 ≤ c.toInt) : tkn n by_ p = (2, p + sp.length, p + sp.length + W.length, W.foldl dvs 0) := by
  obtain ⟨hW0, hW⟩ := hW
  cases W with
  | nil => exact absurd rfl hW0
  | cons w W =>
    have hw := hW w (List.mem_cons_self ..)
    unfold dgX at hw
    rw [decide_eq_true_eq] at hw
    have hb : blX w = false := by unfold blX; rw [decide_eq_false_iff_not]; omega
    have eb := rd_blk hs h hb (by omega)
    have hd := Rd_drop h
    obtain ⟨a, b⟩ := Rd_hd hd
    have hn := hd.1
    rw [List.length_append] at hn
    have el := rd_dgs (f := n - (p + sp.length)) (v := 0) hd hW hc.1 hc.2 (by omega)
    unfold tkn
    rw [eb, if_pos a, if_neg (by rw [b, Int.toNat_of_nonneg (by omega)]; omega), if_pos (by rw [b, Int.toNat_of_nonneg (by omega)]; exact hw), el]
theorem tkE {n : Nat} {by_ : Nat → Int} {p : Nat} {L : List Int32} (h : Rd n by_ p (59 :: L)) : tkn n by_ p = (3, p, p + 1, 0) := by
  have eb : bgn n by_ p = p := rd_blk (sp := []) (Or.inl rfl) h (by decide) (by decide)
  obtain ⟨a, b⟩ := Rd_hd h
  have b2 : by_ p = 59 := by rw [b]; rfl
  unfold tkn
  rw [eb, if_pos a, if_neg (by rw [b2]; omega), if_neg (by rw [b2]; omega)]
theorem tk0 {n : Nat} {by_ : Nat → Int} {p : Nat} (h : Rd n by_ p []) : (tkn n by_ p).1 = 0 := by
  have hn := h.1
  rw [List.length_nil] at hn
  have eb : bgn n by_ p = p := by
    show blk n by_ (n - p) p = p
    rw [show n - p = 0 by omega]
    rfl
  unfold tkn
  rw [eb, if_neg (by omega)]
theorem dd_dg {v : Nat} (h : v < 1000) : dd v ≠ [] ∧ (∀ x ∈ dd v, dgX x = true) ∧ (dd v).foldl dvs 0 = (v : Int) := by
  have t : ∀ z : Nat, z < 10 → dgX (iI ((48 + z : Nat) : Int)) = true ∧ (iI ((48 + z : Nat) : Int)).toInt.toNat = 48 + z := by decide +kernel
  unfold dd
  split
  · obtain ⟨a, b⟩ := t v (by omega)
    refine ⟨by simp, fun x hx => ?_, ?_⟩
    · simp only [List.mem_cons, List.not_mem_nil, or_false] at hx
      rw [hx]; exact a
    · simp only [List.foldl_cons, List.foldl_nil, dvs, b]
      rw [if_pos (by omega)]
      omega
  · split
    · obtain ⟨a, b⟩ := t (v / 10) (by omega)
      obtain ⟨c, d⟩ := t (v % 10) (by omega)
      refine ⟨by simp, fun x hx => ?_, ?_⟩
      · simp only [List.mem_cons, List.not_mem_nil, or_false] at hx
        rcases hx with e | e <;> rw [e]
        · exact a
        · exact c
      · simp only [List.foldl_cons, List.foldl_nil, dvs, b, d]
        rw [if_pos (show 10 * (0 : Int) + ((48 + v / 10 : Nat) : Int) - 48 < 100000 by omega), if_pos (by omega)]
        omega
    · obtain ⟨a, b⟩ := t (v / 100) (by omega)
      obtain ⟨c, d⟩ := t (v % 100 / 10) (by omega)
      obtain ⟨e, f⟩ := t (v % 10) (by omega)
      refine ⟨by simp, fun x hx => ?_, ?_⟩
      · simp only [List.mem_cons, List.not_mem_nil, or_false] at hx
        rcases hx with g | g | g <;> rw [g]
        · exact a
        · exact c
        · exact e
      · simp only [List.foldl_cons, List.foldl_nil, dvs, b, d, f]
        rw [if_pos (show 10 * (0 : Int) + ((48 + v / 100 : Nat) : Int) - 48 < 100000 by omega), if_pos (show 10 * (10 * (0 : Int) + ((48 + v / 100 : Nat) : Int) - 48) + ((48 + v % 100 / 10 : Nat) : Int) - 48 < 100000 by omega), if_pos (by omega)]
        omega
theorem tkN {n : Nat} {by_ : Nat → Int} {p v : Nat} {c : Int32} {L : List Int32} (hv : v < 1000) (h : Rd n by_ p (32 :: (dd v ++ (c :: L)))) (hc : dgX c = false ∧ 0 ≤ c.toInt) : tkn n by_ p = (2, p + 1, p + 1 + dl v, (v : Int)) := by
  obtain ⟨a, b, e⟩ := dd_dg hv
  have := tkD (sp := [32]) (Or.inr rfl) h ⟨a, b⟩ hc
  rw [dd_len, e] at this
  exact this
/-! words -/
def mcL (W w : List Int32) : Nat → Nat → Bool
  | 0, _ => true
  | d + 1, i => if W.getD i 0 = w.getD i 0 then mcL W w d (i + 1) else false
def isL (W w : List Int32) : Bool := if W.length = w.length then mcL W w w.length 0 else false
theorem isW_L {by_ : Nat → Int} {q : Nat} {W w : List Int32} (hA : asc W) (h : ∀ i, i < W.length → by_ (q + i) = (ch W i : Int)) : isW by_ (1, q, q + W.length, 0) w = isL W w := by
  unfold isW isL
  rw [if_pos rfl, show q + W.length - q = W.length by omega]
  by_cases e : W.length = w.length
  · rw [if_pos e, if_pos e]
    have key : ∀ d i, i + d = w.length → mch by_ q w d i = mcL W w d i := by
      intro d
      induction d with
      | zero => intro i hi; rfl
      | succ d ih =>
        intro i hi
        simp only [mch, mcL]
        rw [h i (by omega), ← ch_e hA i, ih (i + 1) (by omega)]
    exact key w.length 0 (by omega)
  · rw [if_neg e, if_neg e]
theorem asc_of {W : List Int32} (h : W.all (fun x => decide (0 ≤ x.toInt ∧ x.toInt < 128)) = true) : asc W := fun x hx => by
  have := List.all_eq_true.mp h x hx
  simpa using this
def wdX (W : List Int32) : Prop := (W ≠ [] ∧ ∀ x ∈ W, ltX x = true) ∧ asc W ∧ isL W W = true
theorem wdX_of {W : List Int32} (h1 : W.isEmpty = false) (h2 : W.all ltX = true) (h3 : W.all (fun x => decide (0 ≤ x.toInt ∧ x.toInt < 128)) = true) (h4 : isL W W = true) : wdX W := ⟨⟨by cases W <;> simp at h1 ⊢, fun x hx => List.all_eq_true.mp h2 x hx⟩, asc_of h3, h4⟩
theorem xCap : wdX wCap := wdX_of (by decide) (by decide) (by decide) (by decide)
theorem xLim : wdX wLim := wdX_of (by decide) (by decide) (by decide) (by decide)
theorem xIt : wdX wIt := wdX_of (by decide) (by decide) (by decide) (by decide)
theorem xBar : wdX wBar := wdX_of (by decide) (by decide) (by decide) (by decide)
theorem xNeed : wdX wNeed := wdX_of (by decide) (by decide) (by decide) (by decide)
theorem xMust : wdX wMust := wdX_of (by decide) (by decide) (by decide) (by decide)
theorem xNev : wdX wNev := wdX_of (by decide) (by decide) (by decide) (by decide)
theorem xWe : wdX wWe := wdX_of (by decide) (by decide) (by decide) (by decide)
theorem xGa : wdX wGa := wdX_of (by decide) (by decide) (by decide) (by decide)
theorem xJo : wdX wJo := wdX_of (by decide) (by decide) (by decide) (by decide)
theorem tkw {n : Nat} {by_ : Nat → Int} {p : Nat} {sp W : List Int32} {L : List Int32} (hs : sp = [] ∨ sp = [32]) (hx : wdX W) (h : Rd n by_ p (sp ++ (W ++ (32 :: L)))) : tkn n by_ p = (1, p + sp.length, p + sp.length + W.length, 0) ∧ ∀ w, isW by_ (1, p + sp.length, p + sp.length + W.length, 0) w = isL W w :=
  ⟨tkW hs h hx.1 ⟨by decide, by decide⟩, fun w => isW_L hx.2.1 (Rd_at (Rd_drop h))⟩
theorem cN_ok {p q v : Nat} {g : Int} (hg : (v : Int) ≤ g) : cN g (2, p, q, (v : Int)) = .ok v := by
  unfold cN
  rw [if_pos rfl, if_pos hg]
  rfl
theorem pB_ok {n : Nat} {by_ : Nat → Int} {p v : Nat} {sp W : List Int32} {c : Int32} {L : List Int32} {g : Int} (hs : sp = [] ∨ sp = [32]) (hx : wdX W) (hv : v < 1000) (hg : (v : Int) ≤ g) (h : Rd n by_ p (sp ++ (W ++ (32 :: (dd v ++ (c :: L)))))) (hc : dgX c = false ∧ 0 ≤ c.toInt) : pB n by_ W g (tkn n by_ p) = .ok (v, tkn n by_ (p + sp.length + W.length + 1 + dl v)) ∧ Rd n by_ (p + sp.length + W.length + 1 + dl v) (c :: L) := by
  obtain ⟨a, b⟩ := tkw hs hx h
  have h2 := Rd_drop (Rd_drop h)
  have e2 := tkN hv h2 hc
  refine ⟨?_, ?_⟩
  · rw [a]
    unfold pB pW
    rw [b W, hx.2.2, if_pos rfl]
    simp only [nxt]
    rw [e2]
    unfold pN
    rw [cN_ok hg]
  · have h3 := Rd_drop (A := 32 :: dd v) (B := c :: L) h2
    rw [List.length_cons, dd_len, show p + sp.length + W.length + (dl v + 1) = p + sp.length + W.length + 1 + dl v by omega] at h3
    exact h3
theorem pE_ok {n : Nat} {by_ : Nat → Int} {p : Nat} {L : List Int32} (h : Rd n by_ p (59 :: L)) : pE n by_ (tkn n by_ p) = .ok (tkn n by_ (p + 1)) ∧ Rd n by_ (p + 1) L := by
  have e := tkE h
  obtain ⟨a, b⟩ := Rd_hd h
  have b2 : by_ p = 59 := by rw [b]; rfl
  refine ⟨?_, Rd_drop (A := [59]) h⟩
  rw [e]
  unfold pE
  rw [if_pos ⟨rfl, b2⟩]
/-- the statements of X, k of them, turn s into s2 -/
def Ps (X : List Int32) (s s2 : Nat → Nat) (k : Nat) : Prop := ∀ (n : Nat) (by_ : Nat → Int) (p : Nat) (R : List Int32) (f : Nat), Rd n by_ p (X ++ R) → pzL n by_ (f + k) (tkn n by_ p) s = pzL n by_ f (tkn n by_ (p + X.length)) s2
theorem Ps_0 {s : Nat → Nat} : Ps [] s s 0 := fun n by_ p R f h => rfl
theorem Ps_app {X Y : List Int32} {s s2 s3 : Nat → Nat} {k m : Nat} (h1 : Ps X s s2 k) (h2 : Ps Y s2 s3 m) : Ps (X ++ Y) s s3 (k + m) := fun n by_ p R f h => by
  rw [List.append_assoc] at h
  rw [show f + (k + m) = f + m + k by omega, h1 n by_ p (Y ++ R) (f + m) h, h2 n by_ (p + X.length) R f (Rd_drop h), List.length_append]
  rw [show p + X.length + Y.length = p + (X.length + Y.length) by omega]
theorem pzL_st {n : Nat} {by_ : Nat → Int} {f : Nat} {t t2 : TK} {s s2 : Nat → Nat} (h0 : t.1 ≠ 0) (h : pzE n by_ (pzSt n by_ t s) = .ok (t2, s2)) : pzL n by_ (f + 1) t s = pzL n by_ f t2 s2 := by
  rw [pzL, if_neg h0, h]
theorem pzE_k {n : Nat} {by_ : Nat → Int} {r : PzR} {t2 t3 : TK} {s2 : Nat → Nat} (h : r = .ok (t2, s2)) (h2 : pE n by_ t2 = .ok t3) : pzE n by_ r = .ok (t3, s2) := by
  subst h
  unfold pzE
  simp only [h2]
abbrev lI1 : List Int32 := [105, 116, 101, 109, 32, 119, 101, 105, 103, 104, 116, 32]
abbrev lI2 : List Int32 := [32, 103, 97, 105, 110, 32]
abbrev lI3 : List Int32 := [32, 106, 111, 121, 32]
abbrev lSe : List Int32 := [59]
theorem Ps_it {s : Nat → Nat} (h0 : s 0 < 12) {a b c : Nat} (ha : a ≤ 99) (hb : b ≤ 99) (hc : c ≤ 99) : Ps (lI1 ++ (dd a ++ (lI2 ++ (dd b ++ (lI3 ++ (dd c ++ lSe)))))) s (adS s a b c) 1 := by
  intro n by_ p R f h
  have h1 : Rd n by_ p ([] ++ (wIt ++ (32 :: (wWe ++ (32 :: (dd a ++ (32 :: (wGa ++ (32 :: (dd b ++ (32 :: (wJo ++ (32 :: (dd c ++ (59 :: R))))))))))))))) := by
    simp only [List.append_assoc] at h
    exact h
  obtain ⟨t1, i1⟩ := tkw (Or.inl rfl) xIt h1
  have h2 := Rd_drop (Rd_drop h1)
  obtain ⟨b1, h3⟩ := pB_ok (sp := [32]) (g := 99) (Or.inr rfl) xWe (by omega) (by omega) h2 ⟨by decide, by decide⟩
  obtain ⟨b2, h4⟩ := pB_ok (sp := [32]) (g := 99) (Or.inr rfl) xGa (by omega) (by omega) h3 ⟨by decide, by decide⟩
  obtain ⟨b3, h5⟩ := pB_ok (sp := [32]) (g := 99) (Or.inr rfl) xJo (by omega) (by omega) h4 ⟨by decide, by decide⟩
  obtain ⟨e1, h6⟩ := pE_ok h5
  rw [pzL_st (by rw [t1]; exact Nat.one_ne_zero) (pzE_k (t3 := _) (s2 := adS s a b c) ?_ e1)]
  · congr 1
    congr 1
    simp only [List.length_append, List.length_cons, List.length_nil, dd_len]
    omega
  · rw [t1]
    unfold pzSt
    rw [i1, show isL wIt wIt = true from by decide, if_pos rfl]
    unfold pzIt
    rw [if_pos h0]
    simp only [nxt]
    rw [b1]
    simp only []
    rw [b2]
    simp only []
    rw [b3]
abbrev lB1 : List Int32 := [98, 97, 114, 32]
abbrev lN1 : List Int32 := [110, 101, 101, 100, 32]
abbrev lSp : List Int32 := [32]
abbrev lM1 : List Int32 := [109, 117, 115, 116, 32]
abbrev lV1 : List Int32 := [110, 101, 118, 101, 114, 32]
theorem Ps_pr {s : Nat → Nat} {W : List Int32} (hx : wdX W) {w a b : Nat} (hw : ∀ n by_ t, (∀ u, isW by_ t u = isL W u) → pzSt n by_ t s = pzPr n by_ w t s) (hs : s 0 ≤ 12) (ha : a < s 0) (hb : b < s 0) (hab : b ≠ a) (hbit : (s (6 + 5 * a + w)).testBit b = false) : Ps (W ++ (lSp ++ (dd a ++ (lSp ++ (dd b ++ lSe))))) s (pzS w a b s) 1 := by
  intro n by_ p R f h
  have h1 : Rd n by_ p ([] ++ (W ++ (32 :: (dd a ++ (32 :: (dd b ++ (59 :: R))))))) := by
    simp only [List.append_assoc] at h
    exact h
  obtain ⟨t1, i1⟩ := tkw (Or.inl rfl) hx h1
  have h2 := Rd_drop (Rd_drop h1)
  have t2 := tkN (v := a) (by omega) h2 ⟨by decide, by decide⟩
  have h3 := Rd_drop (A := 32 :: dd a) (B := 32 :: (dd b ++ (59 :: R))) h2
  rw [List.length_cons, dd_len] at h3
  have t3 := tkN (v := b) (by omega) h3 ⟨by decide, by decide⟩
  have h4 := Rd_drop (A := 32 :: dd b) (B := 59 :: R) h3
  rw [List.length_cons, dd_len] at h4
  obtain ⟨e1, h5⟩ := pE_ok h4
  rw [pzL_st (by rw [t1]; exact Nat.one_ne_zero) (pzE_k (t3 := _) (s2 := pzS w a b s) ?_ e1)]
  · congr 1
    congr 1
    simp only [List.length_append, List.length_cons, List.length_nil, dd_len]
    omega
  · rw [t1, hw n by_ _ i1]
    unfold pzPr
    simp only [nxt]
    rw [t2]
    unfold pN
    rw [cN_ok (by omega)]
    simp only [nxt]
    rw [show p + ([] : List Int32).length + W.length + 1 + dl a = p + ([] : List Int32).length + W.length + (dl a + 1) by omega, t3, cN_ok (by omega)]
    simp only []
    rw [if_neg (by rw [hbit]; simp [hab])]
    rw [show p + ([] : List Int32).length + W.length + (dl a + 1) + 1 + dl b = p + ([] : List Int32).length + W.length + (dl a + 1) + (dl b + 1) by omega]
theorem Ps_on {s : Nat → Nat} {W : List Int32} (hx : wdX W) {w a : Nat} (hw : ∀ n by_ t, (∀ u, isW by_ t u = isL W u) → pzSt n by_ t s = pzOn n by_ w t s) (hs : s 0 ≤ 12) (ha : a < s 0) (hbit : (s w).testBit a = false) : Ps (W ++ (lSp ++ (dd a ++ lSe))) s (su s w (tb (s w) a true)) 1 := by
  intro n by_ p R f h
  have h1 : Rd n by_ p ([] ++ (W ++ (32 :: (dd a ++ (59 :: R))))) := by
    simp only [List.append_assoc] at h
    exact h
  obtain ⟨t1, i1⟩ := tkw (Or.inl rfl) hx h1
  have h2 := Rd_drop (Rd_drop h1)
  have t2 := tkN (v := a) (by omega) h2 ⟨by decide, by decide⟩
  have h4 := Rd_drop (A := 32 :: dd a) (B := 59 :: R) h2
  rw [List.length_cons, dd_len] at h4
  obtain ⟨e1, h5⟩ := pE_ok h4
  rw [pzL_st (by rw [t1]; exact Nat.one_ne_zero) (pzE_k (t3 := _) (s2 := su s w (tb (s w) a true)) ?_ e1)]
  · congr 1
    congr 1
    simp only [List.length_append, List.length_cons, List.length_nil, dd_len]
    omega
  · rw [t1, hw n by_ _ i1]
    unfold pzOn
    simp only [nxt]
    rw [t2, cN_ok (by omega)]
    simp only [nxt]
    rw [if_neg (by rw [hbit]; simp)]
    rw [show p + ([] : List Int32).length + W.length + 1 + dl a = p + ([] : List Int32).length + W.length + (dl a + 1) by omega]
theorem Ps_bar {s : Nat → Nat} {a b : Nat} (hs : s 0 ≤ 12) (ha : a < s 0) (hb : b < s 0) (hab : b ≠ a) (hbit : (s (6 + 5 * a + 3)).testBit b = false) : Ps (lB1 ++ (dd a ++ (lSp ++ (dd b ++ lSe)))) s (barS s a b true) 1 :=
  Ps_pr (w := 3) xBar (fun n by_ t h => by unfold pzSt; rw [h, h, show isL wBar wIt = false from by decide, show isL wBar wBar = true from by decide, if_neg (by decide), if_pos rfl]) hs ha hb hab hbit
theorem Ps_need {s : Nat → Nat} {a b : Nat} (hs : s 0 ≤ 12) (ha : a < s 0) (hb : b < s 0) (hab : b ≠ a) (hbit : (s (6 + 5 * a + 4)).testBit b = false) : Ps (lN1 ++ (dd a ++ (lSp ++ (dd b ++ lSe)))) s (su s (6 + 5 * a + 4) (tb (s (6 + 5 * a + 4)) b true)) 1 :=
  Ps_pr (w := 4) xNeed (fun n by_ t h => by unfold pzSt; rw [h, h, h, show isL wNeed wIt = false from by decide, show isL wNeed wBar = false from by decide, show isL wNeed wNeed = true from by decide, if_neg (by decide), if_neg (by decide), if_pos rfl]) hs ha hb hab hbit
theorem Ps_must {s : Nat → Nat} {a : Nat} (hs : s 0 ≤ 12) (ha : a < s 0) (hbit : (s 3).testBit a = false) : Ps (lM1 ++ (dd a ++ lSe)) s (su s 3 (tb (s 3) a true)) 1 :=
  Ps_on (w := 3) xMust (fun n by_ t h => by unfold pzSt; rw [h, h, h, h, show isL wMust wIt = false from by decide, show isL wMust wBar = false from by decide, show isL wMust wNeed = false from by decide, show isL wMust wMust = true from by decide, if_neg (by decide), if_neg (by decide), if_neg (by decide), if_pos rfl]) hs ha hbit
theorem Ps_nev {s : Nat → Nat} {a : Nat} (hs : s 0 ≤ 12) (ha : a < s 0) (hbit : (s 4).testBit a = false) : Ps (lV1 ++ (dd a ++ lSe)) s (su s 4 (tb (s 4) a true)) 1 :=
  Ps_on (w := 4) xNev (fun n by_ t h => by unfold pzSt; rw [h, h, h, h, h, show isL wNev wIt = false from by decide, show isL wNev wBar = false from by decide, show isL wNev wNeed = false from by decide, show isL wNev wMust = false from by decide, show isL wNev wNev = true from by decide, if_neg (by decide), if_neg (by decide), if_neg (by decide), if_neg (by decide), if_pos rfl]) hs ha hbit
abbrev lC1 : List Int32 := [99, 97, 112, 97, 99, 105, 116, 121, 32]
abbrev lL1 : List Int32 := [32, 108, 105, 109, 105, 116, 32]
/-- the whole text -/
theorem pzT_ok {n : Nat} {by_ : Nat → Int} {c l k : Nat} (hc : c ≤ 999) (hl : l ≤ 12) {X : List Int32} {s : Nat → Nat} (hk : k ≤ 600) (hX : Ps X (pz0 c l) s k) (h : Rd n by_ 0 (lC1 ++ (dd c ++ (lL1 ++ (dd l ++ (lSe ++ X)))))) : pzT n by_ = .ok s := by
  have h1 : Rd n by_ 0 ([] ++ (wCap ++ (32 :: (dd c ++ (32 :: (wLim ++ (32 :: (dd l ++ (59 :: X))))))))) := h
  obtain ⟨b1, h2⟩ := pB_ok (g := 999) (Or.inl rfl) xCap (by omega) (by omega) h1 ⟨by decide, by decide⟩
  obtain ⟨b2, h3⟩ := pB_ok (sp := [32]) (g := 12) (Or.inr rfl) xLim (by omega) (by omega) h2 ⟨by decide, by decide⟩
  obtain ⟨e1, h4⟩ := pE_ok h3
  have hf : ∀ q, Rd n by_ q X → pzL n by_ 601 (tkn n by_ q) (pz0 c l) = .ok s := by
    intro q hq
    have hq2 : Rd n by_ q (X ++ []) := by rw [List.append_nil]; exact hq
    have := hX n by_ q [] (601 - k) hq2
    rw [show 601 - k + k = 601 by omega] at this
    rw [this, show 601 - k = (600 - k) + 1 by omega, pzL, if_pos (tk0 (Rd_drop hq2))]
  unfold pzT pzFr pzFb
  rw [b1]
  simp only []
  rw [b2]
  simp only []
  rw [e1]
  simp only []
  exact hf _ h4
