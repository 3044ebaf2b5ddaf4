/-! LAYERS: how many pairs a layer has; the reference's layerSize -/
/-- of the keys that have come: how many lie in layer k -/
noncomputable def lsz (P : Int → Prop) : Nat → Nat → Nat
  | 0, _ => 0
  | d + 1, k => pch (P (4000000 - ((d + 1 : Nat) : Int)) ∧ LYR P (4000000 - ((d + 1 : Nat) : Int)) = k) (lsz P d k + 1) (lsz P d k)
theorem lsz_skip {P : Int → Prop} {d k : Nat} : ∀ {m : Nat}, (∀ i, d ≤ i → i < d + m → ¬ P (4000000 - ((i + 1 : Nat) : Int))) → lsz P (d + m) k = lsz P d k
  | 0, _ => rfl
  | m + 1, h => by
    rw [← Nat.add_assoc]
    simp only [lsz]
    rw [pch_n (fun z => h (d + m) (by omega) (by omega) z.1)]
    exact lsz_skip fun i h1 h2 => h i h1 (by omega)
theorem lsz_at {P : Int → Prop} {w : Int} {k : Nat} (h0 : 0 ≤ w ∧ w < 4000000) (h : P w) : lsz P (4000000 - w).toNat k = if LYR P w = k then lsz P (3999999 - w).toNat k + 1 else lsz P (3999999 - w).toNat k := by
  have e : (4000000 - w).toNat = (3999999 - w).toNat + 1 := by omega
  rw [e]
  simp only [lsz]
  have e2 : (4000000 - (((3999999 - w).toNat + 1 : Nat) : Int)) = w := by omega
  rw [e2]
  by_cases c : LYR P w = k
  · rw [pch_p ⟨h, c⟩, if_pos c]
  · rw [pch_n (fun z => c z.2), if_neg c]
theorem lsz_z {P : Int → Prop} : ∀ {d k : Nat}, d ≤ 4000000 → (lrun P d).1 ≤ k → lsz P d k = 0
  | 0, _, _, _ => rfl
  | d + 1, k, hd, h => by
    simp only [lsz]
    by_cases c : P (4000000 - ((d + 1 : Nat) : Int))
    · have e1 : (3999999 - (4000000 - ((d + 1 : Nat) : Int))).toNat = d := by omega
      have e2 : LYR P (4000000 - ((d + 1 : Nat) : Int)) = fbl (lrun P d).2.1 ((4000000 - ((d + 1 : Nat) : Int)) % 2048) (lrun P d).1 := by unfold LYR; rw [e1]
      simp only [lrun] at h
      rw [pch_p c] at h
      unfold lput at h
      simp only at h
      rw [← e2] at h
      have l := fbl_le (t := (lrun P d).2.1) (j := (4000000 - ((d + 1 : Nat) : Int)) % 2048) (lrun P d).1
      rw [← e2] at l
      have n : LYR P (4000000 - ((d + 1 : Nat) : Int)) ≠ k ∧ (lrun P d).1 ≤ k := by
        split at h <;> omega
      rw [pch_n (fun z => n.1 z.2)]
      exact lsz_z (by omega) n.2
    · simp only [lrun] at h
      rw [pch_n c] at h
      rw [pch_n (fun z => c z.1)]
      exact lsz_z (by omega) h
/-- no key comes between d and d2 -/
theorem gapP {P : Int → Prop} {d d2 : Nat} (h : ∀ w, P w → 4000000 - (d2 : Int) ≤ w → 4000000 - (d : Int) ≤ w) (h2 : d ≤ d2) : lrun P d2 = lrun P d ∧ ∀ k, lsz P d2 k = lsz P d k := by
  obtain ⟨m, rfl⟩ : ∃ m, d2 = d + m := ⟨d2 - d, by omega⟩
  have g : ∀ i, d ≤ i → i < d + m → ¬ P (4000000 - ((i + 1 : Nat) : Int)) := fun i h1 h3 c => by have := h _ c (by omega); omega
  exact ⟨lrun_skip g, fun k => lsz_skip g⟩
