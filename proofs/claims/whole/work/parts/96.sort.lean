/-! THE REFERENCE SORTS ITS PAIRS -/
def mbr (m : Nat) (a : Nat → Int) (v : Int) : Prop := ∃ i, i < m ∧ a i = v
def rwP (m : Nat) (a : Nat → Int) (row : Nat → Int32) : Prop := ∀ i, i < m → row i = iI (a i)
def rgP (m : Nat) (a : Nat → Int) : Prop := ∀ i, i < m → 0 ≤ a i ∧ a i < 4000000
def ui (a : Nat → Int) (k : Nat) (v : Int) : Nat → Int := fun i => if i = k then v else a i
theorem ui_s {a : Nat → Int} {k : Nat} {v : Int} : ui a k v k = v := if_pos rfl
theorem ui_n {a : Nat → Int} {k i : Nat} {v : Int} (h : i ≠ k) : ui a k v i = a i := if_neg h
theorem ui_self {a : Nat → Int} {k : Nat} : ui a k (a k) = a := by
  funext i
  by_cases e : i = k
  · rw [e, ui_s]
  · rw [ui_n e]
theorem rwP_put {m : Nat} {a : Nat → Int} {row : Nat → Int32} (h : rwP m a row) (k : Nat) (v : Int) : rwP m (ui a k v) (upd row k (iI v)) := by
  intro i hi
  by_cases e : i = k
  · rw [e, pk_us, ui_s]
  · rw [pk_un e, ui_n e]; exact h i hi
theorem rgP_put {m : Nat} {a : Nat → Int} (h : rgP m a) (k : Nat) {v : Int} (hv : 0 ≤ v ∧ v < 4000000) : rgP m (ui a k v) := by
  intro i hi
  by_cases e : i = k
  · rw [e, ui_s]; exact hv
  · rw [ui_n e]; exact h i hi
/-- a hole moves: what stands at l goes to k, v stays in hand -/
theorem mbr_hole {m : Nat} {a : Nat → Int} {k l : Nat} (hk : k < m) (hl : l < m) (hn : l ≠ k) {v w : Int} : mbr m (ui (ui a k (a l)) l v) w ↔ mbr m (ui a k v) w := by
  constructor
  · rintro ⟨i, hi, e⟩
    by_cases c : i = l
    · rw [c, ui_s] at e
      exact ⟨k, hk, by rw [ui_s]; exact e⟩
    · rw [ui_n c] at e
      by_cases d : i = k
      · rw [d, ui_s] at e
        exact ⟨l, hl, by rw [ui_n hn]; exact e⟩
      · rw [ui_n d] at e
        exact ⟨i, hi, by rw [ui_n d]; exact e⟩
  · rintro ⟨i, hi, e⟩
    by_cases c : i = k
    · rw [c, ui_s] at e
      exact ⟨l, hl, by rw [ui_s]; exact e⟩
    · rw [ui_n c] at e
      by_cases d : i = l
      · refine ⟨k, hk, ?_⟩
        rw [ui_n (fun z => hn z.symm), ui_s, ← d]
        exact e
      · exact ⟨i, hi, by rw [ui_n d, ui_n c]; exact e⟩
theorem sl_sort26 {x1 : Int32} {x3 : Int32} {k71 : Int32 → (Nat → Int32) → Prop} {Q : (Nat → Int32) → Prop} {m h : Nat} (hm : m ≤ 4096) (h0 : 0 < h) (h1 : h ≤ 2000) {v : Int} (hv : 0 ≤ v ∧ v < 4000000) {M : Int → Prop} {S : Nat → (Nat → Int) → Prop}
    (hS : ∀ k a, k < m → h ≤ k → S k a → a (k - h) < v → S (k - h) (ui a k (a (k - h))))
    (hQ : ∀ (k : Nat) (a : Nat → Int) (row : Nat → Int32), k < m → rwP m a row → rgP m a → (∀ w, mbr m (ui a k v) w ↔ M w) → S k a → (k < h ∨ v ≤ a (k - h)) → k71 (iI (k : Nat)) row) :
    ∀ (d k : Nat) (a : Nat → Int) (row : Nat → Int32), k ≤ d → k < m → rwP m a row → rgP m a → (∀ w, mbr m (ui a k v) w ↔ M w) → S k a → wp_X11_sortPairs_L26 x1 (iI (h:Nat)) x3 (iI v) k71 Q (d + 1) (iI (k : Nat)) row := by
  intro d
  induction d with
  | zero =>
    intro k a row hd hk hR hG hM hs
    unfold wp_X11_sortPairs_L26
    rw [iI_lt (by omega) (by omega) (by omega) (by omega)]
    exact ⟨fun _ => hQ k a row hk hR hG hM hs (Or.inl (by omega)), fun z => by omega⟩
  | succ d ih =>
    intro k a row hd hk hR hG hM hs
    unfold wp_X11_sortPairs_L26
    rw [iI_lt (by omega) (by omega) (by omega) (by omega)]
    refine ⟨fun z => hQ k a row hk hR hG hM hs (Or.inl (by omega)), fun z => ?_⟩
    have e : iI (k : Nat) - iI (h : Nat) = iI ((k - h : Nat) : Int) := by
      rw [iI_sub, show ((k : Int) - (h : Int)) = ((k - h : Nat) : Int) by omega]
    have g := hG (k - h) (by omega)
    rw [e, iI_clN (by omega), iI_clN (by omega), hR (k - h) (by omega), iI_le (by omega) (by omega) (by omega) (by omega)]
    refine ⟨in_lit (by omega) (by omega), fun c => hQ k a row hk hR hG hM hs (Or.inr c), fun c => ⟨in_lit (by omega) (by omega), in_lit (by omega) (by omega), fun x hx => ?_⟩⟩
    subst hx
    exact ih (k - h) (ui a k (a (k - h))) _ (by omega) (by omega) (rwP_put hR k _) (rgP_put hG k g) (fun w => by rw [mbr_hole hk (by omega) (by omega)]; exact hM w) (hS k a hk (by omega) hs (by omega))
