/-! LAYERS: the pure run over the keys, from above -/
/-- the first of the first c places whose joy is below j, else c -/
def fbl (t : Nat → Int) (j : Int) : Nat → Nat
  | 0 => 0
  | c + 1 => if fbl t j c < c then fbl t j c else if t c < j then c else c + 1
theorem fbl_le {t : Nat → Int} {j : Int} : ∀ c, fbl t j c ≤ c
  | 0 => Nat.le_refl _
  | c + 1 => by
    have := fbl_le (t := t) (j := j) c
    simp only [fbl]
    split
    · omega
    · split <;> omega
theorem fbl_lt {t : Nat → Int} {j : Int} : ∀ {c i}, i < fbl t j c → j ≤ t i
  | 0, i, h => absurd h (Nat.not_lt_zero _)
  | c + 1, i, h => by
    have l := fbl_le (t := t) (j := j) c
    simp only [fbl] at h
    split at h
    · exact fbl_lt h
    · split at h
      · exact fbl_lt (c := c) (by omega)
      · by_cases e : i = c
        · subst e; omega
        · exact fbl_lt (c := c) (by omega)
theorem fbl_at {t : Nat → Int} {j : Int} : ∀ {c}, fbl t j c < c → t (fbl t j c) < j
  | 0, h => absurd h (Nat.not_lt_zero _)
  | c + 1, h => by
    simp only [fbl] at h ⊢
    split
    · rename_i q; exact fbl_at q
    · rename_i q
      rw [if_neg q] at h
      split
      · rename_i r; exact r
      · rename_i r; rw [if_neg r] at h; omega
theorem fbl_eq {t : Nat → Int} {j : Int} {c k : Nat} (h1 : k ≤ c) (h2 : ∀ i, i < k → j ≤ t i) (h3 : k < c → t k < j) : fbl t j c = k := by
  have l := fbl_le (t := t) (j := j) c
  by_cases a : fbl t j c < k
  · have := fbl_at (t := t) (j := j) (c := c) (by omega)
    have := h2 _ a
    omega
  · by_cases b : k < fbl t j c
    · have := fbl_lt b
      have := h3 (by omega)
      omega
    · omega
abbrev LST := Nat × (Nat → Int) × (Nat → Int)
/-- key w comes: its joy goes to the first layer below it, its gain too -/
def lput (w : Int) (z : LST) : LST := (if fbl z.2.1 (w % 2048) z.1 = z.1 then z.1 + 1 else z.1, ui z.2.1 (fbl z.2.1 (w % 2048) z.1) (w % 2048), ui z.2.2 (fbl z.2.1 (w % 2048) z.1) (w / 2048))
noncomputable def pch (p : Prop) {α : Type} (a b : α) : α := @ite α p (Classical.propDecidable p) a b
theorem pch_p {p : Prop} {α : Type} {a b : α} (h : p) : pch p a b = a := if_pos h
theorem pch_n {p : Prop} {α : Type} {a b : α} (h : ¬ p) : pch p a b = b := if_neg h
/-- the keys from 4000000 - d on have come -/
noncomputable def lrun (P : Int → Prop) : Nat → LST
  | 0 => (0, fun _ => 0, fun _ => 0)
  | d + 1 => pch (P (4000000 - ((d + 1 : Nat) : Int))) (lput (4000000 - ((d + 1 : Nat) : Int)) (lrun P d)) (lrun P d)
theorem lrun_skip {P : Int → Prop} {d : Nat} : ∀ {m : Nat}, (∀ k, d ≤ k → k < d + m → ¬ P (4000000 - ((k + 1 : Nat) : Int))) → lrun P (d + m) = lrun P d
  | 0, _ => rfl
  | m + 1, h => by
    rw [← Nat.add_assoc]
    simp only [lrun]
    rw [pch_n (h (d + m) (by omega) (by omega))]
    exact lrun_skip fun k h1 h2 => h k h1 (by omega)
/-- what holds all along: tops never ascend; a later layer's last pair is smaller -/
def lOK (d : Nat) (z : LST) : Prop := (∀ i j, i < j → j < z.1 → z.2.1 j ≤ z.2.1 i) ∧ (∀ i, i < z.1 → 0 ≤ z.2.1 i ∧ z.2.1 i ≤ 1188 ∧ 0 ≤ z.2.2 i ∧ z.2.2 i + z.2.1 i + i ≤ 2376 ∧ 4000000 - (d : Int) ≤ 2048 * z.2.2 i + z.2.1 i)
theorem lOK_put {d : Nat} {z : LST} (h : lOK d z) {w : Int} (hw : w < 4000000 - (d : Int)) (h0 : 0 ≤ w) (hj : w % 2048 ≤ 1188) (hg : w / 2048 ≤ 1188) {d2 : Nat} (hd : 4000000 - (d2 : Int) ≤ w) (hdd : d ≤ d2) : lOK d2 (lput w z) := by
  obtain ⟨h1, h2⟩ := h
  have l := fbl_le (t := z.2.1) (j := w % 2048) z.1
  have a := fun i => fbl_lt (t := z.2.1) (j := w % 2048) (c := z.1) (i := i)
  have b := fbl_at (t := z.2.1) (j := w % 2048) (c := z.1)
  unfold lput lOK
  simp only
  generalize fbl z.2.1 (w % 2048) z.1 = k at l a b ⊢
  have cnt : ∀ i, i < (if k = z.1 then z.1 + 1 else z.1) → i = k ∨ i < z.1 := by
    intro i hi
    split at hi <;> omega
  refine ⟨fun i j hij hj2 => ?_, fun i hi => ?_⟩
  · rcases cnt j hj2 with e | e
    · subst e
      rw [ui_s, ui_n (by omega)]
      exact a i hij
    · by_cases f : j = k
      · rw [f, ui_s, ui_n (by omega)]
        exact a i (by omega)
      · rw [ui_n f]
        by_cases g : i = k
        · rw [g, ui_s]
          have := b (by omega)
          have := h1 k j (by omega) e
          omega
        · rw [ui_n g]
          exact h1 i j hij e
  · by_cases f : i = k
    · rw [f, ui_s, ui_s]
      by_cases k0 : k = 0
      · subst k0
        omega
      · have p1 := a (k - 1) (by omega)
        have p2 := h2 (k - 1) (by omega)
        omega
    · rw [ui_n f, ui_n f]
      have := h2 i (by rcases cnt i hi with e | e <;> omega)
      omega
def prg (P : Int → Prop) : Prop := ∀ w, P w → 0 ≤ w ∧ w < 4000000 ∧ w % 2048 ≤ 1188 ∧ w / 2048 ≤ 1188
theorem lOK_w {d d2 : Nat} {z : LST} (h : lOK d z) (hd : d ≤ d2) : lOK d2 z := ⟨h.1, fun i hi => by have := h.2 i hi; omega⟩
theorem lrun_ok {P : Int → Prop} (hP : prg P) : ∀ d : Nat, lOK d (lrun P d)
  | 0 => ⟨fun i j _ h => absurd h (Nat.not_lt_zero _), fun i h => absurd h (Nat.not_lt_zero _)⟩
  | d + 1 => by
    have ih := lrun_ok hP d
    simp only [lrun]
    by_cases c : P (4000000 - ((d + 1 : Nat) : Int))
    · rw [pch_p c]
      obtain ⟨a, b, e, f⟩ := hP _ c
      exact lOK_put ih (by omega) a e f (by omega) (by omega)
    · rw [pch_n c]
      exact lOK_w ih (by omega)
theorem lOK_cnt {d : Nat} {z : LST} (h : lOK d z) : z.1 ≤ 2377 := by
  by_cases c : z.1 = 0
  · omega
  · have := h.2 (z.1 - 1) (by omega)
    omega
/-- the layer of key w -/
noncomputable def LYR (P : Int → Prop) (w : Int) : Nat := fbl (lrun P (3999999 - w).toNat).2.1 (w % 2048) (lrun P (3999999 - w).toNat).1
theorem lrun_at {P : Int → Prop} {w : Int} (h0 : 0 ≤ w ∧ w < 4000000) (h : P w) : lrun P (4000000 - w).toNat = lput w (lrun P (3999999 - w).toNat) := by
  have e : (4000000 - w).toNat = (3999999 - w).toNat + 1 := by omega
  rw [e]
  simp only [lrun]
  have e2 : (4000000 - (((3999999 - w).toNat + 1 : Nat) : Int)) = w := by omega
  rw [e2, pch_p h]
theorem sl_lay32 {t_row : Nat → Int32} {x1 : Int32} {t_pairMany : Int32} {t_pairs : Nat → Int32} {t_layerJoy : Nat → Int32} {t_layerOfPair : Nat → Int32} {k56 : Int32 → Prop} {Q : Int32 → Int32 → (Nat → Int32) → (Nat → Int32) → (Nat → Int32) → Prop} {c : Nat} (hc : c ≤ 2377) {t : Nat → Int} (ht : ∀ i, i < c → t_layerJoy i = iI (t i) ∧ 0 ≤ t i ∧ t i ≤ 1188) {j : Int} (hj : 0 ≤ j ∧ j ≤ 1188) (hQ : k56 (iI (fbl t j c : Nat))) : ∀ (d x : Nat), x + d = c → (∀ i, i < x → j ≤ t i) → wp_X11_layLayers_L32 t_row x1 (iI j) t_pairMany (iI (c:Nat)) t_pairs t_layerJoy t_layerOfPair k56 Q (d + 1) (iI (x : Nat)) := by
  intro d
  induction d with
  | zero =>
    intro x hx h
    obtain rfl : x = c := by omega
    unfold wp_X11_layLayers_L32
    rw [fbl_eq (Nat.le_refl _) h (fun z => by omega)] at hQ
    exact ⟨fun _ => hQ, fun z => absurd (Int32.le_refl _) z⟩
  | succ d ih =>
    intro x hx h
    obtain ⟨a, b1, b2⟩ := ht x (by omega)
    unfold wp_X11_layLayers_L32
    rw [iI_le (by omega) (by omega) (by omega) (by omega), iI_clN (by omega), a, iI_lt (by omega) (by omega) (by omega) (by omega), iI_s1]
    refine ⟨fun z => by omega, fun _ => ⟨in_lit (by omega) (by omega), fun z => ?_, fun z => ih (x + 1) (by omega) fun i hi => ?_⟩⟩
    · rw [fbl_eq (k := x) (by omega) h (fun _ => z)] at hQ
      exact hQ
    · by_cases e : i = x
      · rw [e]; omega
      · exact h i (by omega)
theorem key_gap {p x : Nat} {e : Nat → Int} {P : Int → Prop} (hS : sdc p e) (hM : ∀ w, mbr p e w ↔ P w) {w : Int} (h1 : x < p → e x < w) (h2 : x = 0 ∨ w < e (x - 1)) (hx : x ≤ p) : ¬ P w := by
  intro c
  obtain ⟨i, hi, ei⟩ := (hM w).mpr c
  by_cases a : i < x
  · by_cases b : i = x - 1
    · rw [b] at ei; omega
    · have := hS i (x - 1) (by omega) (by omega)
      omega
  · have := h1 (by omega)
    by_cases b : i = x
    · rw [b] at ei; omega
    · have := hS x i (by omega) hi
      omega
theorem lrun_to {p x d d2 : Nat} {e : Nat → Int} {P : Int → Prop} (hS : sdc p e) (hM : ∀ w, mbr p e w ↔ P w) (hG : rgP p e) (hx : x ≤ p) (hd : x = 0 ∧ d = 0 ∨ 0 < x ∧ d = (4000000 - e (x - 1)).toNat) (h2 : d ≤ d2) (h3 : x < p → (d2 : Int) ≤ 3999999 - e x) : lrun P d2 = lrun P d := by
  obtain ⟨m, rfl⟩ : ∃ m, d2 = d + m := ⟨d2 - d, by omega⟩
  refine lrun_skip fun k k1 k2 => key_gap hS hM (x := x) (fun h => by have := h3 h; omega) ?_ hx
  rcases hd with ⟨a, b⟩ | ⟨a, b⟩
  · exact Or.inl a
  · have := hG (x - 1) (by omega)
    exact Or.inr (by omega)
theorem sl_lay11 {t_row : Nat → Int32} {t_pairs : Nat → Int32} {Q : Int32 → Int32 → (Nat → Int32) → (Nat → Int32) → (Nat → Int32) → Prop} {p : Nat} (hp : p ≤ 4096) {e : Nat → Int} {P : Int → Prop} (hP : prg P) (hS : sdc p e) (hM : ∀ w, mbr p e w ↔ P w) (hR : rwP p e t_pairs) (hG : rgP p e) (hQ : ∀ lj lo, (∀ i, i < p → lo i = iI (LYR P (e i) : Nat)) → Q (iI (p : Nat)) (iI ((lrun P 4000000).1 : Nat)) t_pairs lj lo) :
    ∀ (n x d : Nat) (lj lo : Nat → Int32), x + n = p → (x = 0 ∧ d = 0 ∨ 0 < x ∧ d = (4000000 - e (x - 1)).toNat) → (∀ i, i < (lrun P d).1 → lj i = iI ((lrun P d).2.1 i)) → (∀ i, i < x → lo i = iI (LYR P (e i) : Nat)) → wp_X11_layLayers_L11 t_row (iI (p:Nat)) t_pairs Q (n + 1) (iI (x : Nat)) (iI ((lrun P d).1 : Nat)) lj lo := by
  intro n
  induction n with
  | zero =>
    intro x d lj lo hx hd hJ hL
    obtain rfl : x = p := by omega
    have e1 : lrun P 4000000 = lrun P d := lrun_to hS hM hG (Nat.le_refl _) hd (by
      rcases hd with ⟨a, b⟩ | ⟨a, b⟩
      · omega
      · have := hG (x - 1) (by omega); omega) (fun z => by omega)
    unfold wp_X11_layLayers_L11
    refine ⟨fun _ => ?_, fun z => absurd (Int32.le_refl _) z⟩
    rw [← e1]
    exact hQ lj lo hL
  | succ n ih =>
    intro x d lj lo hx hd hJ hL
    have w0 := hG x (by omega)
    have pw : P (e x) := (hM _).mp ⟨x, by omega, rfl⟩
    obtain ⟨-, -, wj, wg⟩ := hP _ pw
    have dle : d ≤ (3999999 - e x).toNat := by
      rcases hd with ⟨a, b⟩ | ⟨a, b⟩
      · omega
      · have := hS (x - 1) x (by omega) (by omega)
        have := hG (x - 1) (by omega)
        omega
    have e1 : lrun P (3999999 - e x).toNat = lrun P d := lrun_to hS hM hG (by omega) hd dle (fun _ => by omega)
    have e2 := lrun_at w0 pw
    have eL : LYR P (e x) = fbl (lrun P d).2.1 (e x % 2048) (lrun P d).1 := by unfold LYR; rw [e1]
    rw [e1] at e2
    have ok1 := lrun_ok hP d
    have ok2 := lrun_ok hP (4000000 - e x).toNat
    have c1 := lOK_cnt ok1
    have c2 := lOK_cnt ok2
    have l := fbl_le (t := (lrun P d).2.1) (j := e x % 2048) (lrun P d).1
    have next := ih (x + 1) (4000000 - e x).toNat
    rw [e2] at next c2
    unfold lput at next c2
    simp only at next c2
    unfold wp_X11_layLayers_L11
    rw [iI_le (by omega) (by omega) (by omega) (by omega), iI_clN (by omega), hR x (by omega)]
    refine ⟨fun z => by omega, fun _ => ⟨in_lit (by omega) (by omega), fun v hv => ⟨(lrun P d).1 + 1, ?_⟩⟩⟩
    have ev : v = iI (e x % 2048) := by
      rw [hv, show (2048 : Int32) = iI ((2048 : Nat) : Int) from rfl, show iI (e x) = iI (((e x).toNat : Nat) : Int) from by rw [Int.toNat_of_nonneg w0.1], iI_divN (by omega) (by omega) (by omega), iI_mul, iI_sub]
      congr 1
      omega
    subst ev
    refine sl_lay32 (c := (lrun P d).1) c1 (t := (lrun P d).2.1) (fun i hi => ⟨hJ i hi, (ok1.2 i hi).1, (ok1.2 i hi).2.1⟩) (by omega) ?_ (lrun P d).1 0 (by omega) (fun i hi => by omega)
    rw [← eL]
    rw [← eL] at next c2 l
    have fin : wp_X11_layLayers_b74 t_row (iI (p : Nat)) t_pairs (fun z0 z1 z2 z3 => wp_X11_layLayers_L11 t_row (iI (p : Nat)) t_pairs Q (n + 1) z0 z1 z2 z3) Q (iI (x : Nat)) (iI (e x % 2048)) (iI (LYR P (e x) : Nat)) (iI ((if LYR P (e x) = (lrun P d).1 then (lrun P d).1 + 1 else (lrun P d).1 : Nat) : Int)) lj lo := by
      unfold wp_X11_layLayers_b74
      rw [iI_clN (by omega), iI_clN (by omega), iI_s1]
      refine ⟨in_lit (by omega) (by omega), in_lit (by omega) (by omega), next _ _ (by omega) (Or.inr ⟨by omega, by rw [show x + 1 - 1 = x by omega]⟩) (fun i hi => ?_) (fun i hi => ?_)⟩
      · by_cases q : i = LYR P (e x)
        · rw [q, pk_us, ui_s]
        · rw [pk_un q, ui_n q]
          exact hJ i (by split at hi <;> omega)
      · by_cases q : i = x
        · rw [q, pk_us]
        · rw [pk_un q]; exact hL i (by omega)
    rw [iI_eq (by omega) (by omega) (by omega) (by omega), iI_s1]
    refine ⟨fun z => ?_, fun z => ?_⟩
    · rw [if_neg (by omega)] at fin; exact fin
    · rw [if_pos (by omega)] at fin; exact fin
abbrev HAS (s : Nat → Nat) : Int → Prop := has_ s (2 ^ s 0)
noncomputable abbrev LC (s : Nat → Nat) : Nat := (lrun (HAS s) 4000000).1
theorem prg_has {s : Nat → Nat} (hW : WF s) : prg (HAS s) := by
  rintro w ⟨q, h1, h2, h3⟩
  have k := kyP_rng hW q
  have a1 : sm s 1 q (s 0) ≤ 1188 := sm_bd hW (by omega) q
  have a2 : sm s 2 q (s 0) ≤ 1188 := sm_bd hW (by omega) q
  unfold kyP at h3 k
  omega
theorem sp_layLayers {s : Nat → Nat} (hW : WF s) {t_pairMany : Int32} {t_layerMany : Int32} {t_row : Nat → Int32} {t_pairs : Nat → Int32} {t_layerJoy : Nat → Int32} {t_layerOfPair : Nat → Int32} {Q : Int32 → Int32 → (Nat → Int32) → (Nat → Int32) → (Nat → Int32) → Prop} (hN : neP s t_row) (hQ : ∀ (p : Nat) (e : Nat → Int) (pr lj lo : Nat → Int32), p ≤ 4096 → rwP p e pr → rgP p e → sdc p e → (∀ w, mbr p e w ↔ HAS s w) → (∀ i, i < p → lo i = iI (LYR (HAS s) (e i) : Nat)) → Q (iI (p : Nat)) (iI (LC s : Nat)) pr lj lo) : wp_X11_layLayers t_pairMany t_layerMany t_row t_pairs t_layerJoy t_layerOfPair Q := by
  unfold wp_X11_layLayers
  refine sp_layPairs hW hN fun p e row h1 h2 h3 h4 h5 => ⟨p + 1, ?_⟩
  have key := sl_lay11 (t_row := t_row) (t_pairs := row) (Q := Q) h1 (prg_has hW) h4 h5 h2 h3 (fun lj lo hL => hQ p e row lj lo h1 h2 h3 h4 h5 hL) p 0 0 t_layerJoy t_layerOfPair (by omega) (Or.inl ⟨rfl, rfl⟩) (fun i hi => absurd hi (Nat.not_lt_zero _)) (fun i hi => by omega)
  exact key
theorem sr_layers {s : Nat → Nat} (hW : WF s) {t_thrown : Int32} {t_pairMany : Int32} {t_layerMany : Int32} {t_row : Nat → Int32} {t_pairs : Nat → Int32} {t_layerJoy : Nat → Int32} {t_layerOfPair : Nat → Int32} {Q : Int32 → Int32 → Int32 → Int32 → (Nat → Int32) → (Nat → Int32) → (Nat → Int32) → Prop} (hN : neP s t_row) (hQ : ∀ pm lm pr lj lo, Q (iI (LC s : Nat)) 0 pm lm pr lj lo) : wp_X11_layers t_thrown t_pairMany t_layerMany t_row t_pairs t_layerJoy t_layerOfPair Q := by
  unfold wp_X11_layers
  exact sp_layLayers hW hN fun p e pr lj lo _ _ _ _ _ _ => hQ _ _ _ _ _
