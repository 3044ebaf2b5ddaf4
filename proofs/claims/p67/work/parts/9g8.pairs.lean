/-! THE LAW'S PAIRS: one after another -/
section
variable {s : Nat → Nat}
/-- set q may be taken and has gain g and joy j -/
abbrev prS (s : Nat → Nat) (g j q : Nat) : Prop := rf s (s 1) q = 0 ∧ sm s 1 q (s 0) = g ∧ sm s 2 q (s 0) = j
def gT (s : Nat → Nat) (g j : Nat) : Nat → Nat
  | 0 => 0
  | m + 1 => if prS s g j m then gT s g j m + 1 else gT s g j m
def gC (s : Nat → Nat) (g j : Nat) : Nat → Nat
  | 0 => 0
  | m + 1 => if prS s g j m ∧ gT s g j m = 0 then m else gC s g j m
def gL (s : Nat → Nat) (g j : Nat) : Nat → Nat
  | 0 => 0
  | m + 1 => if prS s g j m ∧ (gT s g j m = 0 ∨ sm s 0 m (s 0) < sm s 0 (gL s g j m) (s 0)) then m else gL s g j m
theorem gT_0 {g j : Nat} : ∀ {m : Nat}, (∀ r, r < m → ¬ prS s g j r) → gT s g j m = 0
  | 0, _ => rfl
  | m + 1, h => by
    simp only [gT]
    rw [if_neg (h m (by omega))]
    exact gT_0 fun r hr => h r (by omega)
theorem gT_pos {g j : Nat} : ∀ {m : Nat}, 0 < gT s g j m → ∃ r, r < m ∧ prS s g j r
  | 0, h => absurd h (Nat.lt_irrefl _)
  | m + 1, h => by
    simp only [gT] at h
    by_cases c : prS s g j m
    · exact ⟨m, by omega, c⟩
    · rw [if_neg c] at h
      obtain ⟨r, hr, hp⟩ := gT_pos h
      exact ⟨r, by omega, hp⟩
theorem gT_le {g j : Nat} : ∀ m, gT s g j m ≤ m
  | 0 => Nat.le_refl _
  | m + 1 => by
    have := gT_le (g := g) (j := j) m
    simp only [gT]
    split <;> omega
theorem gC_lt {g j : Nat} : ∀ m, gC s g j m = 0 ∨ gC s g j m < m
  | 0 => Or.inl rfl
  | m + 1 => by
    have := gC_lt (g := g) (j := j) m
    simp only [gC]
    split <;> omega
theorem gL_lt {g j : Nat} : ∀ m, gL s g j m = 0 ∨ gL s g j m < m
  | 0 => Or.inl rfl
  | m + 1 => by
    have := gL_lt (g := g) (j := j) m
    simp only [gL]
    split <;> omega
theorem g_same {h : Nat → Int} {n g j : Nat} (hp : ∀ r, (rf s (s 1) r = 0 ∧ PB s h r = (n : Int)) ↔ prS s g j r) : ∀ m, tmF s (s 1) h m n = gT s g j m ∧ chF s (s 1) h m n = gC s g j m ∧ ltF s (s 1) h m n = gL s g j m
  | 0 => ⟨rfl, rfl, rfl⟩
  | m + 1 => by
    obtain ⟨a, b, c⟩ := g_same hp m
    simp only [tmF, chF, ltF, gT, gC, gL]
    rw [← a, ← b, ← c]
    by_cases q : prS s g j m
    · obtain ⟨q1, q2⟩ := (hp m).mpr q
      refine ⟨by rw [if_pos ⟨q1, q2⟩, if_pos q], ?_, ?_⟩
      · by_cases z : tmF s (s 1) h m n = 0
        · rw [if_pos ⟨q1, q2, z⟩, if_pos ⟨q, z⟩]
        · rw [if_neg (fun y => z y.2.2), if_neg (fun y => z y.2)]
      · by_cases z : tmF s (s 1) h m n = 0 ∨ sm s 0 m (s 0) < sm s 0 (ltF s (s 1) h m n) (s 0)
        · rw [if_pos ⟨q1, q2, z⟩, if_pos ⟨q, z⟩]
        · rw [if_neg (fun y => z y.2.2), if_neg (fun y => z y.2)]
    · have q' : ¬ (rf s (s 1) m = 0 ∧ PB s h m = (n : Int)) := fun z => q ((hp m).mp z)
      refine ⟨?_, ?_, ?_⟩
      · rw [if_neg q', if_neg q]
      · rw [if_neg (fun z => q' ⟨z.1, z.2.1⟩), if_neg (fun z => q z.1)]
      · rw [if_neg (fun z => q' ⟨z.1, z.2.1⟩), if_neg (fun z => q z.1)]
/-! what the stairs say -/
theorem ja_ge {ok : Nat → Bool} {gn jn : Nat → Nat} : ∀ {m r : Nat}, r < m → ok r = true → (jn r : Int) ≤ ja ok gn jn m (gn r)
  | 0, r, h, _ => absurd h (Nat.not_lt_zero _)
  | m + 1, r, h, hr => by
    simp only [ja]
    by_cases e : r = m
    · subst e
      rw [if_pos ⟨hr, rfl⟩]
      omega
    · have := ja_ge (ok := ok) (gn := gn) (jn := jn) (m := m) (r := r) (by omega) hr
      split <;> omega
theorem ja_at {ok : Nat → Bool} {gn jn : Nat → Nat} {g : Nat} : ∀ {m : Nat}, ja ok gn jn m g ≠ -1 → ∃ r, r < m ∧ ok r = true ∧ gn r = g ∧ (jn r : Int) = ja ok gn jn m g
  | 0, h => absurd rfl h
  | m + 1, h => by
    simp only [ja] at h ⊢
    by_cases c : ok m = true ∧ g = gn m
    · rw [if_pos c]
      by_cases e : (jn m : Int) < ja ok gn jn m g
      · obtain ⟨r, h1, h2, h3, h4⟩ := ja_at (ok := ok) (gn := gn) (jn := jn) (g := g) (m := m) (by omega)
        exact ⟨r, by omega, h2, h3, by omega⟩
      · exact ⟨m, by omega, c.1, c.2.symm, by omega⟩
    · rw [if_neg c] at h ⊢
      obtain ⟨r, h1, h2, h3, h4⟩ := ja_at h
      exact ⟨r, by omega, h2, h3, h4⟩
theorem mxa_at {f : Nat → Int} : ∀ {d : Nat}, mxa f d ≠ -1 → ∃ k, k < d ∧ f (1188 - k) = mxa f d
  | 0, h => absurd rfl h
  | d + 1, h => by
    simp only [mxa] at h ⊢
    by_cases e : mxa f d < f (1188 - d)
    · exact ⟨d, by omega, by omega⟩
    · obtain ⟨k, h1, h2⟩ := mxa_at (f := f) (d := d) (by omega)
      exact ⟨k, by omega, by omega⟩
theorem okS_0 {q : Nat} : okS s (s 1) 0 q = true ↔ rf s (s 1) q = 0 := by
  unfold okS
  simp
abbrev okQ (s : Nat → Nat) (q : Nat) : Prop := q < 2 ^ s 0 ∧ rf s (s 1) q = 0
/-- a point is of some set -/
theorem HH_at (hW : WF s) {g : Nat} (h : HH s g ≠ -1) : ∃ q, okQ s q ∧ sm s 1 q (s 0) = g ∧ (sm s 2 q (s 0) : Int) = HH s g := by
  have e : HH s g = JA s (s 1) 0 g := by
    unfold HH HS stair at h ⊢
    split
    · rfl
    · rename_i c; rw [if_neg c] at h; exact absurd rfl h
  rw [e] at h ⊢
  obtain ⟨r, h1, h2, h3, h4⟩ := ja_at h
  exact ⟨r, ⟨h1, okS_0.mp h2⟩, h3, h4⟩
/-- no set beats a point -/
theorem HH_ge (hW : WF s) {g q : Nat} (h : HH s g ≠ -1) (hq : okQ s q) : (sm s 1 q (s 0) = g → (sm s 2 q (s 0) : Int) ≤ HH s g) ∧ (g < sm s 1 q (s 0) → (sm s 2 q (s 0) : Int) < HH s g) := by
  have e : HH s g = JA s (s 1) 0 g ∧ mxa (JA s (s 1) 0) (1188 - g) < JA s (s 1) 0 g := by
    unfold HH HS stair at h ⊢
    split
    · rename_i c; exact ⟨rfl, c⟩
    · rename_i c; rw [if_neg c] at h; exact absurd rfl h
  have a := ja_ge (ok := okS s (s 1) 0) (gn := fun q => sm s 1 q (s 0)) (jn := fun q => sm s 2 q (s 0)) hq.1 (okS_0.mpr hq.2)
  have b : sm s 1 q (s 0) ≤ 1188 := sm_bd hW (by omega) q
  refine ⟨fun c => ?_, fun c => ?_⟩
  · rw [e.1, ← c]; exact a
  · have m := mxa_ge (f := JA s (s 1) 0) (d := 1188 - g) (k := 1188 - sm s 1 q (s 0)) (by omega)
    rw [show 1188 - (1188 - sm s 1 q (s 0)) = sm s 1 q (s 0) by omega] at m
    have a2 : (sm s 2 q (s 0) : Int) ≤ JA s (s 1) 0 (sm s 1 q (s 0)) := a
    have := e.2
    rw [e.1]
    omega
abbrev btS (s : Nat → Nat) (p q : Nat) : Prop := bt (sm s 1 p (s 0) : Nat) (sm s 2 p (s 0) : Nat) (sm s 1 q (s 0) : Nat) (sm s 2 q (s 0) : Nat)
/-- what none beats is a point -/
theorem HH_un (hW : WF s) {q : Nat} (hq : okQ s q) (h : ∀ p, okQ s p → ¬ btS s p q) : HH s (sm s 1 q (s 0)) = (sm s 2 q (s 0) : Int) := by
  have a := ja_ge (ok := okS s (s 1) 0) (gn := fun q => sm s 1 q (s 0)) (jn := fun q => sm s 2 q (s 0)) hq.1 (okS_0.mpr hq.2)
  have a2 : (sm s 2 q (s 0) : Int) ≤ JA s (s 1) 0 (sm s 1 q (s 0)) := a
  have b : sm s 1 q (s 0) ≤ 1188 := sm_bd hW (by omega) q
  have e : JA s (s 1) 0 (sm s 1 q (s 0)) = (sm s 2 q (s 0) : Int) := by
    obtain ⟨r, h1, h2, h3, h4⟩ := ja_at (ok := okS s (s 1) 0) (gn := fun q => sm s 1 q (s 0)) (jn := fun q => sm s 2 q (s 0)) (g := sm s 1 q (s 0)) (m := 2 ^ s 0) (by show JA s (s 1) 0 (sm s 1 q (s 0)) ≠ -1; omega)
    have h4' : (sm s 2 r (s 0) : Int) = JA s (s 1) 0 (sm s 1 q (s 0)) := h4
    have h3' : sm s 1 r (s 0) = sm s 1 q (s 0) := h3
    have := h r ⟨h1, okS_0.mp h2⟩
    unfold btS bt at this
    omega
  have m : mxa (JA s (s 1) 0) (1188 - sm s 1 q (s 0)) < JA s (s 1) 0 (sm s 1 q (s 0)) := by
    by_cases c : mxa (JA s (s 1) 0) (1188 - sm s 1 q (s 0)) = -1
    · omega
    · obtain ⟨k, hk, h5⟩ := mxa_at c
      by_cases c2 : JA s (s 1) 0 (1188 - k) = -1
      · omega
      · obtain ⟨r, h1, h2, h3, h4⟩ := ja_at (ok := okS s (s 1) 0) (gn := fun q => sm s 1 q (s 0)) (jn := fun q => sm s 2 q (s 0)) (m := 2 ^ s 0) c2
        have h4' : (sm s 2 r (s 0) : Int) = JA s (s 1) 0 (1188 - k) := h4
        have h3' : sm s 1 r (s 0) = 1188 - k := h3
        have := h r ⟨h1, okS_0.mp h2⟩
        unfold btS bt at this
        omega
  unfold HH HS stair
  rw [if_pos m, e]
/-- a point is beaten by none -/
theorem HH_nb (hW : WF s) {q p : Nat} (hq : HH s (sm s 1 q (s 0)) = (sm s 2 q (s 0) : Int)) (hp : okQ s p) : ¬ btS s p q := by
  obtain ⟨a, b⟩ := HH_ge hW (g := sm s 1 q (s 0)) (by omega) hp
  intro z
  unfold btS bt at z
  by_cases c : sm s 1 p (s 0) = sm s 1 q (s 0)
  · have := a c; omega
  · have := b (by omega); omega
end
theorem dcmp_self {r : UInt64} (h : vf_n64 r) : Op.cmpValue (FP.dcmp r r) .l = 0 := by
  have e1 : FP.Core.b64.tails = 2 ^ 52 := rfl
  have e2 : FP.Core.b64.exps = 2048 := rfl
  have nn : FP.Core.decode FP.Core.b64 r.toNat ≠ .nan := by
    unfold vf_n64 at h
    rw [UInt64.le_iff_toNat_le, UInt64.toNat_and] at h
    have h1 : (0x7fffffffffffffff : UInt64).toNat = 2 ^ 63 - 1 := by decide
    have h2 : (0x7ff0000000000000 : UInt64).toNat = 9218868437227405312 := by decide
    rw [h1, h2, Nat.and_two_pow_sub_one_eq_mod] at h
    unfold FP.Core.decode FP.Core.fieldE FP.Core.fieldT
    rw [e1, e2]
    split
    · rename_i c
      rw [if_pos (by omega)]
      simp
    · split <;> simp
  have o : ∀ d : FP.Core.Datum, d ≠ .nan → FP.Core.order d d = some .eq := by
    intro d hd
    cases d with
    | nan => exact absurd rfl hd
    | inf s => simp [FP.Core.order]
    | fin s c q => simp [FP.Core.order]
  show Op.cmpValue (FP.Core.order (FP.Core.decode FP.Core.b64 r.toNat) (FP.Core.decode FP.Core.b64 r.toNat)) .l = 0
  rw [o _ nn]
  rfl
