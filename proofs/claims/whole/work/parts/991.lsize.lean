/-! LAYERS: how many pairs a layer has; the reference's layerSize -/
/-- of the keys that have come: how many lie in layer k -/
noncomputable def lsz (P : Int → Prop) : Nat → Nat → Nat
  | 0, _ => 0
  | d + 1, k => pch (P (4000000 - ((d + 1 : Nat) : Int)) ∧ LYR P (4000000 - ((d + 1 : Nat) : Int)) = k) (lsz P d k + 1) (lsz P d k)
theorem lsz_skip {P : Int → Prop} {d k : Nat} : ∀ {m : Nat}, (∀ i, d ≤ i → i < d + m → ¬ P (4000000 - ((i + 1 : Nat) : Int))) → lsz P (d + m) k = lsz P d k
  | 0, _ => rfl
  | m + 1, h => by
    rw [← Nat.add_assoc]
    simp only [lsz]
    rw [pch_n (fun z => h (d + m) (by omega) (by omega) z.1)]
    exact lsz_skip fun i h1 h2 => h i h1 (by omega)
theorem lsz_at {P : Int → Prop} {w : Int} {k : Nat} (h0 : 0 ≤ w ∧ w < 4000000) (h : P w) : lsz P (4000000 - w).toNat k = if LYR P w = k then lsz P (3999999 - w).toNat k + 1 else lsz P (3999999 - w).toNat k := by
  have e : (4000000 - w).toNat = (3999999 - w).toNat + 1 := by omega
  rw [e]
  simp only [lsz]
  have e2 : (4000000 - (((3999999 - w).toNat + 1 : Nat) : Int)) = w := by omega
  rw [e2]
  by_cases c : LYR P w = k
  · rw [pch_p ⟨h, c⟩, if_pos c]
  · rw [pch_n (fun z => c z.2), if_neg c]
theorem lsz_z {P : Int → Prop} : ∀ {d k : Nat}, d ≤ 4000000 → (lrun P d).1 ≤ k → lsz P d k = 0
  | 0, _, _, _ => rfl
  | d + 1, k, hd, h => by
    simp only [lsz]
    by_cases c : P (4000000 - ((d + 1 : Nat) : Int))
    · have e1 : (3999999 - (4000000 - ((d + 1 : Nat) : Int))).toNat = d := by omega
      have e2 : LYR P (4000000 - ((d + 1 : Nat) : Int)) = fbl (lrun P d).2.1 ((4000000 - ((d + 1 : Nat) : Int)) % 2048) (lrun P d).1 := by unfold LYR; rw [e1]
      simp only [lrun] at h
      rw [pch_p c] at h
      unfold lput at h
      simp only at h
      rw [← e2] at h
      have l := fbl_le (t := (lrun P d).2.1) (j := (4000000 - ((d + 1 : Nat) : Int)) % 2048) (lrun P d).1
      rw [← e2] at l
      have n : LYR P (4000000 - ((d + 1 : Nat) : Int)) ≠ k ∧ (lrun P d).1 ≤ k := by
        split at h <;> omega
      rw [pch_n (fun z => n.1 z.2)]
      exact lsz_z (by omega) n.2
    · simp only [lrun] at h
      rw [pch_n c] at h
      rw [pch_n (fun z => c z.1)]
      exact lsz_z (by omega) h
/-- no key comes between d and d2 -/
theorem gapP {P : Int → Prop} {d d2 : Nat} (h : ∀ w, P w → 4000000 - (d2 : Int) ≤ w → 4000000 - (d : Int) ≤ w) (h2 : d ≤ d2) : lrun P d2 = lrun P d ∧ ∀ k, lsz P d2 k = lsz P d k := by
  obtain ⟨m, rfl⟩ : ∃ m, d2 = d + m := ⟨d2 - d, by omega⟩
  have g : ∀ i, d ≤ i → i < d + m → ¬ P (4000000 - ((i + 1 : Nat) : Int)) := fun i h1 h3 c => by have := h _ c (by omega); omega
  exact ⟨lrun_skip g, fun k => lsz_skip g⟩
theorem lsz_to {p x d d2 : Nat} {e : Nat → Int} {P : Int → Prop} (hS : sdc p e) (hM : ∀ w, mbr p e w ↔ P w) (hG : rgP p e) (hx : x ≤ p) (hd : x = 0 ∧ d = 0 ∨ 0 < x ∧ d = (4000000 - e (x - 1)).toNat) (h2 : d ≤ d2) (h3 : x < p → (d2 : Int) ≤ 3999999 - e x) (k : Nat) : lsz P d2 k = lsz P d k := by
  obtain ⟨m, rfl⟩ : ∃ m, d2 = d + m := ⟨d2 - d, by omega⟩
  refine lsz_skip fun k k1 k2 => key_gap hS hM (x := x) (fun h => by have := h3 h; omega) ?_ hx
  rcases hd with ⟨a, b⟩ | ⟨a, b⟩
  · exact Or.inl a
  · have := hG (x - 1) (by omega)
    exact Or.inr (by omega)
theorem sl_lsz30 {t_row : Nat → Int32} {t_thrown : Int32} {t_layerMany : Int32} {t_pairs : Nat → Int32} {t_layerJoy : Nat → Int32} {t_layerOfPair : Nat → Int32} {Q : Int32 → Int32 → Int32 → Int32 → (Nat → Int32) → (Nat → Int32) → (Nat → Int32) → Prop} {p : Nat} (hp : p ≤ 4096) {e : Nat → Int} {P : Int → Prop} (hS : sdc p e) (hM : ∀ w, mbr p e w ↔ P w) (hG : rgP p e) (hP : prg P) (hL : ∀ i, i < p → t_layerOfPair i = iI (LYR P (e i) : Nat)) {k : Nat} (hk : k ≤ 2377) (hQ : Q (iI (lsz P 4000000 k : Nat)) t_thrown (iI (p : Nat)) t_layerMany t_pairs t_layerJoy t_layerOfPair) :
    ∀ (n x d : Nat), x + n = p → (x = 0 ∧ d = 0 ∨ 0 < x ∧ d = (4000000 - e (x - 1)).toNat) → wp_X11_layerSize_L30 t_row (iI (k:Nat)) t_thrown (iI (p:Nat)) t_layerMany t_pairs t_layerJoy t_layerOfPair Q (n + 1) (iI (lsz P d k : Nat)) (iI (x : Nat)) := by
  intro n
  induction n with
  | zero =>
    intro x d hx hd
    obtain rfl : x = p := by omega
    have e1 := lsz_to (d2 := 4000000) hS hM hG (Nat.le_refl _) hd (by
      rcases hd with ⟨a, b⟩ | ⟨a, b⟩
      · omega
      · have := hG (x - 1) (by omega); omega) (fun z => by omega) k
    unfold wp_X11_layerSize_L30
    refine ⟨fun _ => ?_, fun z => absurd (Int32.le_refl _) z⟩
    rw [← e1]
    exact hQ
  | succ n ih =>
    intro x d hx hd
    have w0 := hG x (by omega)
    have pw : P (e x) := (hM _).mp ⟨x, by omega, rfl⟩
    have dle : d ≤ (3999999 - e x).toNat := by
      rcases hd with ⟨a, b⟩ | ⟨a, b⟩
      · omega
      · have := hS (x - 1) x (by omega) (by omega)
        have := hG (x - 1) (by omega)
        omega
    have e1 := lsz_to hS hM hG (by omega) hd dle (fun _ => by omega) k
    have e2 := lsz_at (k := k) w0 pw
    rw [e1] at e2
    have l := fbl_le (t := (lrun P (3999999 - e x).toNat).2.1) (j := e x % 2048) (lrun P (3999999 - e x).toNat).1
    have l2 := lOK_cnt (lrun_ok hP (3999999 - e x).toNat)
    have next := ih (x + 1) (4000000 - e x).toNat (by omega) (Or.inr ⟨by omega, by rw [show x + 1 - 1 = x by omega]⟩)
    have lb : LYR P (e x) ≤ 2377 := by unfold LYR; omega
    rw [e2] at next
    unfold wp_X11_layerSize_L30
    rw [iI_le (by omega) (by omega) (by omega) (by omega), iI_clN (by omega), hL x (by omega), iI_eq (by omega) (by omega) (by omega) (by omega), iI_s1]
    refine ⟨fun z => by omega, fun _ => ⟨in_lit (by omega) (by omega), fun z v hv => ?_, fun z v hv => ?_⟩⟩
    · rw [if_neg (by omega)] at next
      rw [hv, Int32.add_zero]
      exact next
    · rw [if_pos (by omega)] at next
      rw [hv, iI_s1]
      exact next
theorem sr_layerSize {s : Nat → Nat} (hW : WF s) {p1 : Int32} {t_thrown : Int32} {t_pairMany : Int32} {t_layerMany : Int32} {t_row : Nat → Int32} {t_pairs : Nat → Int32} {t_layerJoy : Nat → Int32} {t_layerOfPair : Nat → Int32} {Q : Int32 → Int32 → Int32 → Int32 → (Nat → Int32) → (Nat → Int32) → (Nat → Int32) → Prop} (hN : neP s t_row) (hQ : ∀ pm lm pr lj lo, Q (if 0 ≤ p1.toInt ∧ p1.toInt < (LC s : Int) then iI (lsz (HAS s) 4000000 p1.toInt.toNat : Nat) else 0) (if 0 ≤ p1.toInt ∧ p1.toInt < (LC s : Int) then 0 else 1) pm lm pr lj lo) : wp_X11_layerSize p1 t_thrown t_pairMany t_layerMany t_row t_pairs t_layerJoy t_layerOfPair Q := by
  have cc : LC s ≤ 2377 := lOK_cnt (lrun_ok (prg_has hW) 4000000)
  unfold wp_X11_layerSize
  refine sp_layLayers hW hN fun p e pr lj lo h1 h2 h3 h4 h5 h6 => ?_
  have nb : (iI (LC s : Nat) - 1).toInt64.toInt = (LC s : Int) - 1 := by
    rw [iI_sub1, Int32.toInt_toInt64, iI_toInt (by omega) (by omega)]
  refine sp_in (sp_passes ?_)
  rw [nb, Int32.toInt_toInt64, show (0 : Int64).toInt = 0 from rfl]
  by_cases a : 0 ≤ p1.toInt ∧ p1.toInt < (LC s : Int)
  · simp only [if_pos a] at hQ
    rw [if_pos (by omega)]
    refine ⟨fun _ => ⟨p + 1, ?_⟩, fun z => absurd z (by decide)⟩
    have e1 := i_nat a.1
    have q0 : p1.toInt.toNat < LC s := by omega
    have e2 : p1 = iI (p1.toInt.toNat : Nat) := e1
    generalize p1.toInt.toNat = q at e2 q0 hQ
    subst e2
    exact sl_lsz30 h1 h4 h5 h3 (prg_has hW) h6 (by omega) (hQ _ _ _ _ _) p 0 0 (by omega) (Or.inl ⟨rfl, rfl⟩)
  · simp only [if_neg a] at hQ
    rw [if_neg (by omega)]
    exact ⟨fun z => absurd rfl z, fun _ => hQ _ _ _ _ _⟩
