/-! LAYERS: what the run over the keys means -/
theorem ui_sK {a : Nat → Int} {k : Nat} {v : Int} : ui a k v k = v := if_pos rfl
theorem ui_nK {a : Nat → Int} {k i : Nat} {v : Int} (h : i ≠ k) : ui a k v i = a i := if_neg h
theorem lr_sem {P : Int → Prop} (hP : prg P) : ∀ d : Nat, d ≤ 4000000 → (∀ v, P v → 4000000 - (d : Int) ≤ v → LYR P v < (lrun P d).1 ∧ v % 2048 ≤ (lrun P d).2.1 (LYR P v)) ∧ ∀ i, i < (lrun P d).1 → ∃ v, P v ∧ 4000000 - (d : Int) ≤ v ∧ LYR P v = i ∧ v % 2048 = (lrun P d).2.1 i
  | 0, _ => ⟨fun v hv h => by have := (hP v hv).2.1; omega, fun i hi => absurd hi (Nat.not_lt_zero _)⟩
  | d + 1, hd => by
    obtain ⟨h1, h2⟩ := lr_sem hP d (by omega)
    simp only [lrun]
    by_cases c : P (4000000 - ((d + 1 : Nat) : Int))
    · rw [pch_p c]
      generalize hw : (4000000 : Int) - ((d + 1 : Nat) : Int) = w at c ⊢
      have eL : LYR P w = fbl (lrun P d).2.1 (w % 2048) (lrun P d).1 := by
        unfold LYR
        rw [show (3999999 - w).toNat = d by omega]
      have l := fbl_le (t := (lrun P d).2.1) (j := w % 2048) (lrun P d).1
      have b := fbl_at (t := (lrun P d).2.1) (j := w % 2048) (c := (lrun P d).1)
      unfold lput
      simp only
      rw [← eL] at l b ⊢
      have cnt : (lrun P d).1 ≤ (if LYR P w = (lrun P d).1 then (lrun P d).1 + 1 else (lrun P d).1) ∧ LYR P w < (if LYR P w = (lrun P d).1 then (lrun P d).1 + 1 else (lrun P d).1) ∧ ∀ i, i < (if LYR P w = (lrun P d).1 then (lrun P d).1 + 1 else (lrun P d).1) → i = LYR P w ∨ i < (lrun P d).1 := by
        split
        · exact ⟨by omega, by omega, fun i hi => by omega⟩
        · exact ⟨by omega, by omega, fun i hi => by omega⟩
      refine ⟨fun v hv hvd => ?_, fun i hi => ?_⟩
      · by_cases e : v = w
        · subst e
          rw [ui_sK]
          exact ⟨cnt.2.1, Int.le_refl _⟩
        · obtain ⟨a1, a2⟩ := h1 v hv (by omega)
          refine ⟨by omega, ?_⟩
          by_cases f : LYR P v = LYR P w
          · rw [f, ui_sK]
            rw [f] at a1 a2
            have := b a1
            omega
          · rw [ui_nK f]; exact a2
      · by_cases e : i = LYR P w
        · exact ⟨w, c, by omega, e.symm, by rw [e, ui_sK]⟩
        · obtain ⟨v, v1, v2, v3, v4⟩ := h2 i (by rcases cnt.2.2 i hi with y | y <;> omega)
          exact ⟨v, v1, by omega, v3, by rw [ui_nK e]; exact v4⟩
    · rw [pch_n c]
      refine ⟨fun v hv hvd => h1 v hv ?_, fun i hi => ?_⟩
      · by_cases e : v = 4000000 - ((d + 1 : Nat) : Int)
        · rw [e] at hv; exact absurd hv c
        · omega
      · obtain ⟨v, v1, v2, v3⟩ := h2 i hi
        exact ⟨v, v1, by omega, v3⟩
/-- key v beats key w -/
abbrev btK (v w : Int) : Prop := bt (v / 2048) (v % 2048) (w / 2048) (w % 2048)
theorem LYR_bt {P : Int → Prop} (hP : prg P) {v w : Int} (hv : P v) (hw : P w) (h : btK v w) : LYR P v < LYR P w := by
  obtain ⟨v0, v1, v2, v3⟩ := hP v hv
  obtain ⟨w0, w1, w2, w3⟩ := hP w hw
  unfold btK bt at h
  have hlt : w < v := by omega
  obtain ⟨a1, a2⟩ := (lr_sem hP (3999999 - w).toNat (by omega)).1 v hv (by omega)
  have ok := lrun_ok hP (3999999 - w).toNat
  have eL : LYR P w = fbl (lrun P (3999999 - w).toNat).2.1 (w % 2048) (lrun P (3999999 - w).toNat).1 := rfl
  have b := fbl_at (t := (lrun P (3999999 - w).toNat).2.1) (j := w % 2048) (c := (lrun P (3999999 - w).toNat).1)
  have l := fbl_le (t := (lrun P (3999999 - w).toNat).2.1) (j := w % 2048) (lrun P (3999999 - w).toNat).1
  rw [← eL] at b l
  rcases Nat.lt_or_ge (LYR P v) (LYR P w) with c | c
  · exact c
  · have b2 := b (by omega)
    rcases Nat.lt_or_ge (LYR P w) (LYR P v) with e | e
    · have := ok.1 (LYR P w) (LYR P v) e a1
      omega
    · have e2 : LYR P w = LYR P v := by omega
      rw [e2] at b2
      omega
theorem LYR_by {P : Int → Prop} (hP : prg P) {w : Int} (hw : P w) {k : Nat} (h : LYR P w = k + 1) : ∃ v, P v ∧ btK v w ∧ LYR P v = k := by
  obtain ⟨w0, w1, w2, w3⟩ := hP w hw
  have eL : LYR P w = fbl (lrun P (3999999 - w).toNat).2.1 (w % 2048) (lrun P (3999999 - w).toNat).1 := rfl
  have b := fbl_lt (t := (lrun P (3999999 - w).toNat).2.1) (j := w % 2048) (c := (lrun P (3999999 - w).toNat).1) (i := k) (by rw [← eL]; omega)
  have l := fbl_le (t := (lrun P (3999999 - w).toNat).2.1) (j := w % 2048) (lrun P (3999999 - w).toNat).1
  rw [← eL] at l
  obtain ⟨v, v1, v2, v3, v4⟩ := (lr_sem hP (3999999 - w).toNat (by omega)).2 k (by omega)
  obtain ⟨y0, y1, y2, y3⟩ := hP v v1
  refine ⟨v, v1, ?_, v3⟩
  unfold btK bt
  omega
theorem LYR_all {P : Int → Prop} (hP : prg P) : (∀ v, P v → LYR P v < (lrun P 4000000).1) ∧ ∀ i, i < (lrun P 4000000).1 → ∃ v, P v ∧ LYR P v = i := by
  obtain ⟨h1, h2⟩ := lr_sem hP 4000000 (Nat.le_refl _)
  refine ⟨fun v hv => (h1 v hv (by have := (hP v hv).1; omega)).1, fun i hi => ?_⟩
  obtain ⟨v, v1, -, v3, -⟩ := h2 i hi
  exact ⟨v, v1, v3⟩
theorem fb_ct_cong {p q : Nat → Bool} : ∀ {n : Nat}, (∀ k, k < n → p k = q k) → fb_ct p n = fb_ct q n
  | 0, _ => rfl
  | n + 1, h => by
    rw [fb_ct_succ, fb_ct_succ, fb_ct_cong (fun k hk => h k (by omega)), h n (by omega)]
theorem fb_ct_zero {p : Nat → Bool} : ∀ {n : Nat}, fb_ct p n = 0 ↔ ∀ k, k < n → p k = false
  | 0 => ⟨fun _ k hk => absurd hk (Nat.not_lt_zero k), fun _ => rfl⟩
  | n + 1 => by
    have h := fb_ct_zero (p := p) (n := n)
    rw [fb_ct_succ]
    constructor
    · intro e k hk
      have e1 : fb_ct p n = 0 := by omega
      rcases Nat.lt_or_ge k n with q | q
      · exact h.mp e1 k q
      · have ek : k = n := by omega
        subst ek
        cases hp : p k
        · rfl
        · simp [hp] at e
    · intro a
      rw [h.mpr (fun k hk => a k (by omega)), a n (by omega)]
      rfl
theorem ct_one {p p2 : Nat → Bool} {n0 : Nat} (h : ∀ n, n ≠ n0 → p2 n = p n) (h1 : p n0 = false) (h2 : p2 n0 = true) : ∀ {M : Nat}, n0 < M → fb_ct p2 M = fb_ct p M + 1
  | 0, hM => absurd hM (Nat.not_lt_zero _)
  | M + 1, hM => by
    rw [fb_ct_succ, fb_ct_succ]
    by_cases e : n0 = M
    · subst e
      rw [h1, h2, fb_ct_cong (fun k hk => h k (by omega))]
      rfl
    · rw [ct_one h h1 h2 (M := M) (by omega), h M (fun z => e z.symm)]
      omega
/-- the size of a layer, counted over pairs -/
theorem lsz_ct {P : Int → Prop} {M : Nat} {key : Nat → Int} (hk : ∀ w, P w ↔ ∃ n, n < M ∧ key n = w) (hd : ∀ a b, a < M → b < M → key a = key b → a = b) (k : Nat) : ∀ d : Nat, lsz P d k = fb_ct (fun n => decide (4000000 - (d : Int) ≤ key n ∧ key n < 4000000 ∧ LYR P (key n) = k)) M
  | 0 => by
    simp only [lsz]
    exact (fb_ct_zero.mpr fun n hn => decide_eq_false (by omega)).symm
  | d + 1 => by
    simp only [lsz]
    rw [lsz_ct hk hd k d]
    by_cases c : P (4000000 - ((d + 1 : Nat) : Int)) ∧ LYR P (4000000 - ((d + 1 : Nat) : Int)) = k
    · rw [pch_p c]
      obtain ⟨c1, c2⟩ := c
      obtain ⟨n0, hn0, e0⟩ := (hk _).mp c1
      have cg : fb_ct (fun n => decide (4000000 - ((d + 1 : Nat) : Int) ≤ key n ∧ key n < 4000000 ∧ LYR P (key n) = k)) M = fb_ct (fun n => if n = n0 then true else decide (4000000 - (d : Int) ≤ key n ∧ key n < 4000000 ∧ LYR P (key n) = k)) M := fb_ct_cong fun n hn => by
        by_cases e : n = n0
        · subst e
          rw [if_pos rfl, e0]
          exact decide_eq_true ⟨by omega, by omega, c2⟩
        · rw [if_neg e]
          have ne : key n ≠ 4000000 - ((d + 1 : Nat) : Int) := fun z => e (hd n n0 hn hn0 (by omega))
          exact decide_eq_decide.mpr ⟨fun z => ⟨by omega, z.2⟩, fun z => ⟨by omega, z.2⟩⟩
      rw [cg]
      exact (ct_one (p := fun n => decide (4000000 - (d : Int) ≤ key n ∧ key n < 4000000 ∧ LYR P (key n) = k)) (fun n hn => if_neg hn) (decide_eq_false (fun z => by have := z.1; rw [e0] at this; omega)) (if_pos rfl) hn0).symm
    · rw [pch_n c]
      refine fb_ct_cong fun n hn => decide_eq_decide.mpr ⟨fun z => ⟨by omega, z.2⟩, fun z => ⟨?_, z.2⟩⟩
      by_cases e : key n = 4000000 - ((d + 1 : Nat) : Int)
      · exact absurd ⟨(hk _).mpr ⟨n, hn, e⟩, by rw [← e]; exact z.2.2⟩ c
      · omega
