/-! THE REFERENCE SORTS ITS PAIRS -/
def mbr (m : Nat) (a : Nat → Int) (v : Int) : Prop := ∃ i, i < m ∧ a i = v
def rwP (m : Nat) (a : Nat → Int) (row : Nat → Int32) : Prop := ∀ i, i < m → row i = iI (a i)
def rgP (m : Nat) (a : Nat → Int) : Prop := ∀ i, i < m → 0 ≤ a i ∧ a i < 4000000
def ui (a : Nat → Int) (k : Nat) (v : Int) : Nat → Int := fun i => if i = k then v else a i
theorem ui_s {a : Nat → Int} {k : Nat} {v : Int} : ui a k v k = v := if_pos rfl
theorem ui_n {a : Nat → Int} {k i : Nat} {v : Int} (h : i ≠ k) : ui a k v i = a i := if_neg h
theorem ui_self {a : Nat → Int} {k : Nat} : ui a k (a k) = a := by
  funext i
  by_cases e : i = k
  · rw [e, ui_s]
  · rw [ui_n e]
theorem rwP_put {m : Nat} {a : Nat → Int} {row : Nat → Int32} (h : rwP m a row) (k : Nat) (v : Int) : rwP m (ui a k v) (upd row k (iI v)) := by
  intro i hi
  by_cases e : i = k
  · rw [e, pk_us, ui_s]
  · rw [pk_un e, ui_n e]; exact h i hi
theorem rgP_put {m : Nat} {a : Nat → Int} (h : rgP m a) (k : Nat) {v : Int} (hv : 0 ≤ v ∧ v < 4000000) : rgP m (ui a k v) := by
  intro i hi
  by_cases e : i = k
  · rw [e, ui_s]; exact hv
  · rw [ui_n e]; exact h i hi
/-- a hole moves: what stands at l goes to k, v stays in hand -/
theorem mbr_hole {m : Nat} {a : Nat → Int} {k l : Nat} (hk : k < m) (hl : l < m) (hn : l ≠ k) {v w : Int} : mbr m (ui (ui a k (a l)) l v) w ↔ mbr m (ui a k v) w := by
  constructor
  · rintro ⟨i, hi, e⟩
    by_cases c : i = l
    · rw [c, ui_s] at e
      exact ⟨k, hk, by rw [ui_s]; exact e⟩
    · rw [ui_n c] at e
      by_cases d : i = k
      · rw [d, ui_s] at e
        exact ⟨l, hl, by rw [ui_n hn]; exact e⟩
      · rw [ui_n d] at e
        exact ⟨i, hi, by rw [ui_n d]; exact e⟩
  · rintro ⟨i, hi, e⟩
    by_cases c : i = k
    · rw [c, ui_s] at e
      exact ⟨l, hl, by rw [ui_s]; exact e⟩
    · rw [ui_n c] at e
      by_cases d : i = l
      · refine ⟨k, hk, ?_⟩
        rw [ui_n (fun z => hn z.symm), ui_s, ← d]
        exact e
      · exact ⟨i, hi, by rw [ui_n d, ui_n c]; exact e⟩
theorem sl_sort26 {x1 : Int32} {x3 : Int32} {k71 : Int32 → (Nat → Int32) → Prop} {Q : (Nat → Int32) → Prop} {m h : Nat} (hm : m ≤ 4096) (h0 : 0 < h) (h1 : h ≤ 2000) {v : Int} (hv : 0 ≤ v ∧ v < 4000000) {M : Int → Prop} {S : Nat → (Nat → Int) → Prop}
    (hS : ∀ k a, k < m → h ≤ k → S k a → a (k - h) < v → S (k - h) (ui a k (a (k - h))))
    (hQ : ∀ (k : Nat) (a : Nat → Int) (row : Nat → Int32), k < m → rwP m a row → rgP m a → (∀ w, mbr m (ui a k v) w ↔ M w) → S k a → (k < h ∨ v ≤ a (k - h)) → k71 (iI (k : Nat)) row) :
    ∀ (d k : Nat) (a : Nat → Int) (row : Nat → Int32), k ≤ d → k < m → rwP m a row → rgP m a → (∀ w, mbr m (ui a k v) w ↔ M w) → S k a → wp_X11_sortPairs_L26 x1 (iI (h:Nat)) x3 (iI v) k71 Q (d + 1) (iI (k : Nat)) row := by
  intro d
  induction d with
  | zero =>
    intro k a row hd hk hR hG hM hs
    unfold wp_X11_sortPairs_L26
    rw [iI_lt (by omega) (by omega) (by omega) (by omega)]
    exact ⟨fun _ => hQ k a row hk hR hG hM hs (Or.inl (by omega)), fun z => by omega⟩
  | succ d ih =>
    intro k a row hd hk hR hG hM hs
    unfold wp_X11_sortPairs_L26
    rw [iI_lt (by omega) (by omega) (by omega) (by omega)]
    refine ⟨fun z => hQ k a row hk hR hG hM hs (Or.inl (by omega)), fun z => ?_⟩
    have e : iI (k : Nat) - iI (h : Nat) = iI ((k - h : Nat) : Int) := by
      rw [iI_sub, show ((k : Int) - (h : Int)) = ((k - h : Nat) : Int) by omega]
    have g := hG (k - h) (by omega)
    rw [e, iI_clN (by omega), iI_clN (by omega), hR (k - h) (by omega), iI_le (by omega) (by omega) (by omega) (by omega)]
    refine ⟨in_lit (by omega) (by omega), fun c => hQ k a row hk hR hG hM hs (Or.inr c), fun c => ⟨in_lit (by omega) (by omega), in_lit (by omega) (by omega), fun x hx => ?_⟩⟩
    subst hx
    exact ih (k - h) (ui a k (a (k - h))) _ (by omega) (by omega) (rwP_put hR k _) (rgP_put hG k g) (fun w => by rw [mbr_hole hk (by omega) (by omega)]; exact hM w) (hS k a hk (by omega) hs (by omega))
def dsc (m : Nat) (a : Nat → Int) : Prop := ∀ i j, i < j → j < m → a j ≤ a i
def hol (x : Nat) (v : Int) (k : Nat) (a : Nat → Int) : Prop := k ≤ x ∧ (∀ i j, i < j → j ≤ x → i ≠ k → j ≠ k → a j ≤ a i) ∧ ∀ j, k < j → j ≤ x → a j < v
theorem hol_0 {x : Nat} {a : Nat → Int} (h : dsc x a) (v : Int) : hol x v x a := ⟨Nat.le_refl _, fun i j h1 h2 h3 h4 => h i j h1 (by omega), fun j h1 h2 => by omega⟩
theorem hol_s {x : Nat} {v : Int} {k : Nat} {a : Nat → Int} (h : hol x v k a) (hk : 1 ≤ k) (c : a (k - 1) < v) : hol x v (k - 1) (ui a k (a (k - 1))) := by
  obtain ⟨h0, h1, h2⟩ := h
  refine ⟨by omega, fun i j a1 a2 a3 a4 => ?_, fun j a1 a2 => ?_⟩
  · by_cases e : j = k
    · rw [e, ui_s, ui_n (by omega)]
      exact h1 i (k - 1) (by omega) (by omega) (by omega) (by omega)
    · rw [ui_n e]
      by_cases f : i = k
      · rw [f, ui_s]
        exact h1 (k - 1) j (by omega) a2 (by omega) e
      · rw [ui_n f]
        exact h1 i j a1 a2 f e
  · by_cases e : j = k
    · rw [e, ui_s]; exact c
    · rw [ui_n e]; exact h2 j (by omega) a2
theorem hol_e {x : Nat} {v : Int} {k : Nat} {a : Nat → Int} (h : hol x v k a) (c : k < 1 ∨ v ≤ a (k - 1)) : dsc (x + 1) (ui a k v) := by
  obtain ⟨h0, h1, h2⟩ := h
  intro i j a1 a2
  by_cases e : j = k
  · rw [e, ui_s, ui_n (by omega)]
    have c2 : v ≤ a (k - 1) := by
      rcases c with c | c
      · omega
      · exact c
    by_cases f : i = k - 1
    · rw [f]; exact c2
    · have := h1 i (k - 1) (by omega) (by omega) (by omega) (by omega)
      omega
  · rw [ui_n e]
    by_cases f : i = k
    · rw [f, ui_s]
      have := h2 j (by omega) (by omega)
      omega
    · rw [ui_n f]
      exact h1 i j a1 (by omega) f e
theorem sl_sort10 {k86 : (Nat → Int32) → Prop} {Q : (Nat → Int32) → Prop} {m h : Nat} (hm : m ≤ 4096) (h0 : 0 < h) (h1 : h ≤ 2000) {M : Int → Prop} (hQ : ∀ (a : Nat → Int) (row : Nat → Int32), rwP m a row → rgP m a → (∀ w, mbr m a w ↔ M w) → (h = 1 → dsc m a) → k86 row) :
    ∀ (d x : Nat) (a : Nat → Int) (row : Nat → Int32), m ≤ x + d → h ≤ x → x ≤ 6096 → rwP m a row → rgP m a → (∀ w, mbr m a w ↔ M w) → (h = 1 → dsc x a) → wp_X11_sortPairs_L10 (iI (m:Nat)) (iI (h:Nat)) k86 Q (d + 1) (iI (x : Nat)) row := by
  intro d
  induction d with
  | zero =>
    intro x a row hd hx hx2 hR hG hM hT
    unfold wp_X11_sortPairs_L10
    rw [iI_le (by omega) (by omega) (by omega) (by omega)]
    exact ⟨fun _ => hQ a row hR hG hM fun e i j a1 a2 => hT e i j a1 (by omega), fun z => by omega⟩
  | succ d ih =>
    intro x a row hd hx hx2 hR hG hM hT
    unfold wp_X11_sortPairs_L10
    rw [iI_le (by omega) (by omega) (by omega) (by omega)]
    refine ⟨fun c => hQ a row hR hG hM fun e i j a1 a2 => hT e i j a1 (by omega), fun c => ⟨in_lit (by omega) (by omega), fun v hv => ?_⟩⟩
    have hxm : x < m := by omega
    rw [iI_clN (by omega), hR x hxm] at hv
    subst hv
    refine ⟨x + 1, sl_sort26 (m := m) (h := h) hm h0 h1 (hG x hxm) (M := M) (S := fun k b => h = 1 → hol x (a x) k b) (fun k b hk hh hs c e => ?_) (fun k b row2 hk hR2 hG2 hM2 hs c => ⟨in_lit (by omega) (by omega), ?_⟩) x x a row (Nat.le_refl _) hxm hR hG (fun w => by rw [ui_self]; exact hM w) (fun e => hol_0 (hT e) _)⟩
    · subst e
      exact hol_s (hs rfl) hh c
    · rw [iI_clN (by omega), iI_s1]
      exact ih (x + 1) (ui b k (a x)) _ (by omega) (by omega) (by omega) (rwP_put hR2 k _) (rgP_put hG2 k (hG x hxm)) hM2 (fun e => by subst e; exact hol_e (hs rfl) c)
theorem sl_sort4 {Q : (Nat → Int32) → Prop} {m h h2 n : Nat} (hm : m ≤ 4096) (h0 : 0 < h) (h1 : h ≤ 2000) (hd : iI (h : Nat) / 3 = iI (h2 : Nat)) {M : Int → Prop} (hQ : ∀ (a : Nat → Int) (row : Nat → Int32), rwP m a row → rgP m a → (∀ w, mbr m a w ↔ M w) → (h = 1 → dsc m a) → wp_X11_sortPairs_L4 (iI (m:Nat)) Q n (iI (h2 : Nat)) row) {a : Nat → Int} {row : Nat → Int32} (hR : rwP m a row) (hG : rgP m a) (hM : ∀ w, mbr m a w ↔ M w) : wp_X11_sortPairs_L4 (iI (m:Nat)) Q (n + 1) (iI (h : Nat)) row := by
  unfold wp_X11_sortPairs_L4
  have e : (iI (h : Nat) ≤ 0) ↔ h = 0 := by
    rw [iI_lit 0, iI_le (by omega) (by omega) (by omega) (by omega)]
    omega
  rw [e]
  refine ⟨fun z => by omega, fun _ => ⟨m + 1, sl_sort10 (m := m) (h := h) hm h0 h1 (M := M) (fun a2 row2 hR2 hG2 hM2 hD v hv => ?_) m h a row (by omega) (Nat.le_refl _) (by omega) hR hG hM (fun e i j a1 a2 => by omega)⟩⟩
  rw [hd] at hv
  subst hv
  exact hQ a2 row2 hR2 hG2 hM2 hD
theorem sp_sortPairs {t_pairs : Nat → Int32} {Q : (Nat → Int32) → Prop} {m : Nat} (hm : m ≤ 4096) {a : Nat → Int} (hR : rwP m a t_pairs) (hG : rgP m a) (hQ : ∀ (b : Nat → Int) (row : Nat → Int32), rwP m b row → rgP m b → (∀ w, mbr m b w ↔ mbr m a w) → dsc m b → Q row) : wp_X11_sortPairs (iI (m:Nat)) t_pairs Q := by
  unfold wp_X11_sortPairs
  rw [show (1093 : Int32) = iI ((1093 : Nat) : Int) from rfl]
  refine ⟨8, sl_sort4 (h2 := 364) (M := fun w => mbr m a w) hm (by omega) (by omega) (by decide) (fun a1 r1 R1 G1 M1 _ => ?_) hR hG (fun w => Iff.rfl)⟩
  refine sl_sort4 (h2 := 121) hm (by omega) (by omega) (by decide) (fun a2 r2 R2 G2 M2 _ => ?_) R1 G1 M1
  refine sl_sort4 (h2 := 40) hm (by omega) (by omega) (by decide) (fun a3 r3 R3 G3 M3 _ => ?_) R2 G2 M2
  refine sl_sort4 (h2 := 13) hm (by omega) (by omega) (by decide) (fun a4 r4 R4 G4 M4 _ => ?_) R3 G3 M3
  refine sl_sort4 (h2 := 4) hm (by omega) (by omega) (by decide) (fun a5 r5 R5 G5 M5 _ => ?_) R4 G4 M4
  refine sl_sort4 (h2 := 1) hm (by omega) (by omega) (by decide) (fun a6 r6 R6 G6 M6 _ => ?_) R5 G5 M5
  refine sl_sort4 (h2 := 0) hm (by omega) (by omega) (by decide) (fun a7 r7 R7 G7 M7 D7 => ?_) R6 G6 M6
  unfold wp_X11_sortPairs_L4
  exact ⟨fun _ => hQ a7 r7 R7 G7 M7 (D7 rfl), fun z => absurd (by decide) z⟩
