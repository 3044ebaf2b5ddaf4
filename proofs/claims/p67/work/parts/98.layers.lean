/-! LAYERS: the pure run over the keys, from above -/
/-- the first of the first c places whose joy is below j, else c -/
def fbl (t : Nat → Int) (j : Int) : Nat → Nat
  | 0 => 0
  | c + 1 => if fbl t j c < c then fbl t j c else if t c < j then c else c + 1
theorem fbl_le {t : Nat → Int} {j : Int} : ∀ c, fbl t j c ≤ c
  | 0 => Nat.le_refl _
  | c + 1 => by
    have := fbl_le (t := t) (j := j) c
    simp only [fbl]
    split
    · omega
    · split <;> omega
theorem fbl_lt {t : Nat → Int} {j : Int} : ∀ {c i}, i < fbl t j c → j ≤ t i
  | 0, i, h => absurd h (Nat.not_lt_zero _)
  | c + 1, i, h => by
    have l := fbl_le (t := t) (j := j) c
    simp only [fbl] at h
    split at h
    · exact fbl_lt h
    · split at h
      · exact fbl_lt (c := c) (by omega)
      · by_cases e : i = c
        · subst e; omega
        · exact fbl_lt (c := c) (by omega)
theorem fbl_at {t : Nat → Int} {j : Int} : ∀ {c}, fbl t j c < c → t (fbl t j c) < j
  | 0, h => absurd h (Nat.not_lt_zero _)
  | c + 1, h => by
    simp only [fbl] at h ⊢
    split
    · rename_i q; exact fbl_at q
    · rename_i q
      rw [if_neg q] at h
      split
      · rename_i r; exact r
      · rename_i r; rw [if_neg r] at h; omega
theorem fbl_eq {t : Nat → Int} {j : Int} {c k : Nat} (h1 : k ≤ c) (h2 : ∀ i, i < k → j ≤ t i) (h3 : k < c → t k < j) : fbl t j c = k := by
  have l := fbl_le (t := t) (j := j) c
  by_cases a : fbl t j c < k
  · have := fbl_at (t := t) (j := j) (c := c) (by omega)
    have := h2 _ a
    omega
  · by_cases b : k < fbl t j c
    · have := fbl_lt b
      have := h3 (by omega)
      omega
    · omega
abbrev LST := Nat × (Nat → Int) × (Nat → Int)
/-- key w comes: its joy goes to the first layer below it, its gain too -/
def lput (w : Int) (z : LST) : LST := (if fbl z.2.1 (w % 2048) z.1 = z.1 then z.1 + 1 else z.1, ui z.2.1 (fbl z.2.1 (w % 2048) z.1) (w % 2048), ui z.2.2 (fbl z.2.1 (w % 2048) z.1) (w / 2048))
noncomputable def pch (p : Prop) {α : Type} (a b : α) : α := @ite α p (Classical.propDecidable p) a b
theorem pch_p {p : Prop} {α : Type} {a b : α} (h : p) : pch p a b = a := if_pos h
theorem pch_n {p : Prop} {α : Type} {a b : α} (h : ¬ p) : pch p a b = b := if_neg h
/-- the keys from 4000000 - d on have come -/
noncomputable def lrun (P : Int → Prop) : Nat → LST
  | 0 => (0, fun _ => 0, fun _ => 0)
  | d + 1 => pch (P (4000000 - ((d + 1 : Nat) : Int))) (lput (4000000 - ((d + 1 : Nat) : Int)) (lrun P d)) (lrun P d)
theorem lrun_skip {P : Int → Prop} {d : Nat} : ∀ {m : Nat}, (∀ k, d ≤ k → k < d + m → ¬ P (4000000 - ((k + 1 : Nat) : Int))) → lrun P (d + m) = lrun P d
  | 0, _ => rfl
  | m + 1, h => by
    rw [← Nat.add_assoc]
    simp only [lrun]
    rw [pch_n (h (d + m) (by omega) (by omega))]
    exact lrun_skip fun k h1 h2 => h k h1 (by omega)
/-- what holds all along: tops never ascend; a later layer's last pair is smaller -/
def lOK (d : Nat) (z : LST) : Prop := (∀ i j, i < j → j < z.1 → z.2.1 j ≤ z.2.1 i) ∧ (∀ i, i < z.1 → 0 ≤ z.2.1 i ∧ z.2.1 i ≤ 1188 ∧ 0 ≤ z.2.2 i ∧ z.2.2 i + z.2.1 i + i ≤ 2376 ∧ 4000000 - (d : Int) ≤ 2048 * z.2.2 i + z.2.1 i)
theorem lOK_put {d : Nat} {z : LST} (h : lOK d z) {w : Int} (hw : w < 4000000 - (d : Int)) (h0 : 0 ≤ w) (hj : w % 2048 ≤ 1188) (hg : w / 2048 ≤ 1188) {d2 : Nat} (hd : 4000000 - (d2 : Int) ≤ w) (hdd : d ≤ d2) : lOK d2 (lput w z) := by
  obtain ⟨h1, h2⟩ := h
  have l := fbl_le (t := z.2.1) (j := w % 2048) z.1
  have a := fun i => fbl_lt (t := z.2.1) (j := w % 2048) (c := z.1) (i := i)
  have b := fbl_at (t := z.2.1) (j := w % 2048) (c := z.1)
  unfold lput lOK
  simp only
  generalize fbl z.2.1 (w % 2048) z.1 = k at l a b ⊢
  have cnt : ∀ i, i < (if k = z.1 then z.1 + 1 else z.1) → i = k ∨ i < z.1 := by
    intro i hi
    split at hi <;> omega
  refine ⟨fun i j hij hj2 => ?_, fun i hi => ?_⟩
  · rcases cnt j hj2 with e | e
    · subst e
      rw [ui_s, ui_n (by omega)]
      exact a i hij
    · by_cases f : j = k
      · rw [f, ui_s, ui_n (by omega)]
        exact a i (by omega)
      · rw [ui_n f]
        by_cases g : i = k
        · rw [g, ui_s]
          have := b (by omega)
          have := h1 k j (by omega) e
          omega
        · rw [ui_n g]
          exact h1 i j hij e
  · by_cases f : i = k
    · rw [f, ui_s, ui_s]
      by_cases k0 : k = 0
      · subst k0
        omega
      · have p1 := a (k - 1) (by omega)
        have p2 := h2 (k - 1) (by omega)
        omega
    · rw [ui_n f, ui_n f]
      have := h2 i (by rcases cnt i hi with e | e <;> omega)
      omega
def prg (P : Int → Prop) : Prop := ∀ w, P w → 0 ≤ w ∧ w < 4000000 ∧ w % 2048 ≤ 1188 ∧ w / 2048 ≤ 1188
theorem lOK_w {d d2 : Nat} {z : LST} (h : lOK d z) (hd : d ≤ d2) : lOK d2 z := ⟨h.1, fun i hi => by have := h.2 i hi; omega⟩
theorem lrun_ok {P : Int → Prop} (hP : prg P) : ∀ d : Nat, lOK d (lrun P d)
  | 0 => ⟨fun i j _ h => absurd h (Nat.not_lt_zero _), fun i h => absurd h (Nat.not_lt_zero _)⟩
  | d + 1 => by
    have ih := lrun_ok hP d
    simp only [lrun]
    by_cases c : P (4000000 - ((d + 1 : Nat) : Int))
    · rw [pch_p c]
      obtain ⟨a, b, e, f⟩ := hP _ c
      exact lOK_put ih (by omega) a e f (by omega) (by omega)
    · rw [pch_n c]
      exact lOK_w ih (by omega)
theorem lOK_cnt {d : Nat} {z : LST} (h : lOK d z) : z.1 ≤ 2377 := by
  by_cases c : z.1 = 0
  · omega
  · have := h.2 (z.1 - 1) (by omega)
    omega
/-- the layer of key w -/
noncomputable def LYR (P : Int → Prop) (w : Int) : Nat := fbl (lrun P (3999999 - w).toNat).2.1 (w % 2048) (lrun P (3999999 - w).toNat).1
theorem lrun_at {P : Int → Prop} {w : Int} (h0 : 0 ≤ w ∧ w < 4000000) (h : P w) : lrun P (4000000 - w).toNat = lput w (lrun P (3999999 - w).toNat) := by
  have e : (4000000 - w).toNat = (3999999 - w).toNat + 1 := by omega
  rw [e]
  simp only [lrun]
  have e2 : (4000000 - (((3999999 - w).toNat + 1 : Nat) : Int)) = w := by omega
  rw [e2, pch_p h]
abbrev HAS (s : Nat → Nat) : Int → Prop := has_ s (2 ^ s 0)
noncomputable abbrev LC (s : Nat → Nat) : Nat := (lrun (HAS s) 4000000).1
theorem prg_has {s : Nat → Nat} (hW : WF s) : prg (HAS s) := by
  rintro w ⟨q, h1, h2, h3⟩
  have k := kyP_rng hW q
  have a1 : sm s 1 q (s 0) ≤ 1188 := sm_bd hW (by omega) q
  have a2 : sm s 2 q (s 0) ≤ 1188 := sm_bd hW (by omega) q
  unfold kyP at h3 k
  omega
