/-! THE SEARCH BETWEEN POINTS: steps of a queue -/
def vab (h : Nat → Int) (i j n : Nat) : Int := vl h (PJ h i - PJ h j) ((PG h j : Int) - PG h i) n
/-- the best point above the line of i and j, or -1 -/
def fab (h : Nat → Int) (i j : Nat) : Int :=
  if gb (vab h i j) (PN h) = -1 then -1 else if vab h i j (gb (vab h i j) (PN h)).toNat ≤ vab h i j i then -1 else gb (vab h i j) (PN h)
theorem gb_max {v : Nat → Int} : ∀ {n k : Nat}, k < n → v k ≤ v (gb v n).toNat
  | 0, k, hk => absurd hk (by omega)
  | n + 1, k, hk => by
    rcases gb_rng (v := v) (n := n) with e | ⟨m, hm, e⟩
    · have h0 : n = 0 := by
        rcases Nat.eq_zero_or_pos n with z | z
        · exact z
        · obtain ⟨q, _, q2⟩ := gb_pos (v := v) z; omega
      rw [gb_first e, Int.toNat_natCast]
      rw [show k = n by omega]
      exact Int.le_refl _
    · by_cases c : v n ≤ v m
      · rw [gb_keep2 e c, Int.toNat_natCast]
        by_cases d : k = n
        · rw [d]; exact c
        · have := gb_max (v := v) (n := n) (k := k) (by omega)
          rw [e, Int.toNat_natCast] at this
          exact this
      · rw [gb_take2 e c, Int.toNat_natCast]
        by_cases d : k = n
        · rw [d]; exact Int.le_refl _
        · have := gb_max (v := v) (n := n) (k := k) (by omega)
          rw [e, Int.toNat_natCast] at this
          omega
theorem fab_spec {h : Nat → Int} {i j : Nat} : fab h i j = -1 ∨ ∃ r : Nat, r < PN h ∧ fab h i j = (r : Int) ∧ vab h i j i < vab h i j r ∧ ∀ k, k < PN h → vab h i j k ≤ vab h i j r := by
  unfold fab
  split
  · exact Or.inl rfl
  · rename_i c
    split
    · exact Or.inl rfl
    · rename_i d
      rcases gb_rng (v := vab h i j) (n := PN h) with e | ⟨m, hm, e⟩
      · exact absurd e c
      · refine Or.inr ⟨m, hm, e, ?_, fun k hk => ?_⟩
        · rw [e, Int.toNat_natCast] at d; omega
        · have := gb_max (v := vab h i j) hk
          rw [e, Int.toNat_natCast] at this
          exact this
/-- a point that no weights (P, Q) see beaten -/
def upL (h : Nat → Int) (i : Nat) : Prop := ∃ P Q : Int, 0 ≤ P ∧ 0 < Q ∧ ∀ k, k < PN h → vl h P Q k ≤ vl h P Q i
def upR (h : Nat → Int) (j : Nat) : Prop := ∃ P Q : Int, 0 < P ∧ 0 ≤ Q ∧ ∀ k, k < PN h → vl h P Q k ≤ vl h P Q j
theorem vab_end (h : Nat → Int) (i j : Nat) : vab h i j j = vab h i j i := by
  unfold vab vl
  grind
/-- i lies between r and j: a mix of theirs is above i in one weighing, not above it in another -/
theorem mix {a b c A B p q P Q x y z : Int} (hA : 0 < A) (hB : 0 < B) (hq : 0 < q) (hQ : 0 < Q) (hg : A * a + B * c = (A + B) * b) (h1 : p * b + q * y < p * a + q * x) (h2 : p * b + q * y ≤ p * c + q * z) (h3 : P * a + Q * x ≤ P * b + Q * y) (h4 : P * c + Q * z ≤ P * b + Q * y) : False := by
  have e1 : A * (p * b + q * y) < A * (p * a + q * x) := Int.mul_lt_mul_of_pos_left h1 hA
  have e2 : B * (p * b + q * y) ≤ B * (p * c + q * z) := Int.mul_le_mul_of_nonneg_left h2 (Int.le_of_lt hB)
  have e3 : A * (P * a + Q * x) ≤ A * (P * b + Q * y) := Int.mul_le_mul_of_nonneg_left h3 (Int.le_of_lt hA)
  have e4 : B * (P * c + Q * z) ≤ B * (P * b + Q * y) := Int.mul_le_mul_of_nonneg_left h4 (Int.le_of_lt hB)
  have f1 : q * (A * x + B * z - (A + B) * y) = (A * (p * a + q * x) - A * (p * b + q * y)) + (B * (p * c + q * z) - B * (p * b + q * y)) - p * (A * a + B * c - (A + B) * b) := by grind
  have f2 : Q * (A * x + B * z - (A + B) * y) = (A * (P * a + Q * x) - A * (P * b + Q * y)) + (B * (P * c + Q * z) - B * (P * b + Q * y)) - P * (A * a + B * c - (A + B) * b) := by grind
  rw [hg] at f1 f2
  simp only [Int.sub_self, Int.mul_zero] at f1 f2
  have g1 : 0 < q * (A * x + B * z - (A + B) * y) := by omega
  have g2 : Q * (A * x + B * z - (A + B) * y) ≤ 0 := by omega
  have k1 : 0 < A * x + B * z - (A + B) * y := by
    rcases Int.lt_or_le 0 (A * x + B * z - (A + B) * y) with w | w
    · exact w
    · have := Int.mul_le_mul_of_nonneg_left w (Int.le_of_lt hq)
      omega
  have k2 := Int.mul_pos hQ k1
  omega
/-- the point found lies between, and is up on both sides -/
theorem fab_between {h : Nat → Int} (hs : stP h) {i j : Nat} (hij : i < j) (hj : j < PN h) (hL : upL h i) (hR : upR h j) {r : Nat} (hr : fab h i j = (r : Int)) : i < r ∧ r < j ∧ upL h r ∧ upR h r := by
  rcases fab_spec (h := h) (i := i) (j := j) with e | ⟨m, hm, e, h1, h2⟩
  · omega
  obtain rfl : m = r := by omega
  have gij := PG_lt (h := h) hij hj
  have jij := PJ_lt hs hij hj
  have hp : 0 < PJ h i - PJ h j := by omega
  have hq : 0 < (PG h j : Int) - PG h i := by omega
  have ve := vab_end h i j
  obtain ⟨P, Q, hP, hQ, hU⟩ := hL
  obtain ⟨P2, Q2, hP2, hQ2, hU2⟩ := hR
  have lt1 : i < m := by
    rcases Nat.lt_trichotomy i m with c | c | c
    · exact c
    · subst c; exact absurd h1 (Int.lt_irrefl _)
    · exfalso
      have g1 := PG_lt (h := h) c (by omega)
      have u1 := hU m hm
      have u2 := hU j hj
      unfold vab at h1 ve
      unfold vl at h1 ve u1 u2
      exact mix (A := (PG h j : Int) - PG h i) (B := (PG h i : Int) - PG h m) (p := PJ h i - PJ h j) (q := (PG h j : Int) - PG h i) (P := P) (Q := Q) (by omega) (by omega) hq hQ (by grind) h1 (Int.le_of_eq ve.symm) u1 u2
  have lt2 : m < j := by
    rcases Nat.lt_trichotomy m j with c | c | c
    · exact c
    · subst c; rw [ve] at h1; exact absurd h1 (Int.lt_irrefl _)
    · exfalso
      have g1 := PJ_lt hs c (by omega)
      have u1 := hU2 m hm
      have u2 := hU2 i (by omega)
      unfold vab at h1 ve
      unfold vl at h1 ve u1 u2
      rw [← ve] at h1
      refine mix (a := PJ h m) (b := PJ h j) (c := PJ h i) (x := (PG h m : Int)) (y := (PG h j : Int)) (z := (PG h i : Int)) (A := PJ h i - PJ h j) (B := PJ h j - PJ h m) (p := (PG h j : Int) - PG h i) (q := PJ h i - PJ h j) (P := Q2) (Q := P2) (by omega) (by omega) hp hP2 (by grind) ?_ ?_ ?_ ?_
      · rw [Int.add_comm, Int.add_comm (((PG h j : Int) - PG h i) * PJ h m)]; exact h1
      · rw [Int.add_comm, Int.add_comm (((PG h j : Int) - PG h i) * PJ h i)]; exact Int.le_of_eq ve
      · rw [Int.add_comm, Int.add_comm (Q2 * PJ h j)]; exact u1
      · rw [Int.add_comm, Int.add_comm (Q2 * PJ h j)]; exact u2
  exact ⟨lt1, lt2, ⟨_, _, Int.le_of_lt hp, hq, h2⟩, ⟨_, _, hp, Int.le_of_lt hq, h2⟩⟩
/-! the queue after x steps: how many, from, to, found -/
def SR (h : Nat → Int) : Nat → Nat × (Nat → Nat) × (Nat → Nat) × (Nat → Int)
  | 0 => (if PN h < 2 then 0 else 1, fun _ => 0, fun _ => PN h - 1, fun _ => -1)
  | x + 1 =>
    if fab h ((SR h x).2.1 x) ((SR h x).2.2.1 x) = -1 then ((SR h x).1, (SR h x).2.1, (SR h x).2.2.1, fun k => if k = x then -1 else (SR h x).2.2.2 k)
    else ((SR h x).1 + 2,
      fun k => if k = (SR h x).1 then (SR h x).2.1 x else if k = (SR h x).1 + 1 then (fab h ((SR h x).2.1 x) ((SR h x).2.2.1 x)).toNat else (SR h x).2.1 k,
      fun k => if k = (SR h x).1 then (fab h ((SR h x).2.1 x) ((SR h x).2.2.1 x)).toNat else if k = (SR h x).1 + 1 then (SR h x).2.2.1 x else (SR h x).2.2.1 k,
      fun k => if k = x then fab h ((SR h x).2.1 x) ((SR h x).2.2.1 x) else (SR h x).2.2.2 k)
def SRc (h : Nat → Int) (x : Nat) : Nat := (SR h x).1
def SRf (h : Nat → Int) (x : Nat) : Nat → Nat := (SR h x).2.1
def SRt (h : Nat → Int) (x : Nat) : Nat → Nat := (SR h x).2.2.1
def SRd (h : Nat → Int) (x : Nat) : Nat → Int := (SR h x).2.2.2
theorem SR_no {h : Nat → Int} {x : Nat} (c : fab h (SRf h x x) (SRt h x x) = -1) : SRc h (x + 1) = SRc h x ∧ (∀ k, SRf h (x + 1) k = SRf h x k) ∧ (∀ k, SRt h (x + 1) k = SRt h x k) ∧ ∀ k, SRd h (x + 1) k = if k = x then -1 else SRd h x k := by
  have e : SR h (x + 1) = ((SR h x).1, (SR h x).2.1, (SR h x).2.2.1, fun k => if k = x then -1 else (SR h x).2.2.2 k) := by
    simp only [SR]
    exact if_pos c
  unfold SRc SRf SRt SRd
  rw [e]
  exact ⟨rfl, fun _ => rfl, fun _ => rfl, fun _ => rfl⟩
theorem SR_ye {h : Nat → Int} {x r : Nat} (c : fab h (SRf h x x) (SRt h x x) = (r : Int)) : SRc h (x + 1) = SRc h x + 2 ∧ (∀ k, SRf h (x + 1) k = if k = SRc h x then SRf h x x else if k = SRc h x + 1 then r else SRf h x k) ∧ (∀ k, SRt h (x + 1) k = if k = SRc h x then r else if k = SRc h x + 1 then SRt h x x else SRt h x k) ∧ ∀ k, SRd h (x + 1) k = if k = x then (r : Int) else SRd h x k := by
  have hn : ¬ fab h ((SR h x).2.1 x) ((SR h x).2.2.1 x) = -1 := by
    have : fab h ((SR h x).2.1 x) ((SR h x).2.2.1 x) = (r : Int) := c
    omega
  have hr : (fab h ((SR h x).2.1 x) ((SR h x).2.2.1 x)).toNat = r := by
    have : fab h ((SR h x).2.1 x) ((SR h x).2.2.1 x) = (r : Int) := c
    omega
  have hr2 : fab h ((SR h x).2.1 x) ((SR h x).2.2.1 x) = (r : Int) := c
  have e : SR h (x + 1) = ((SR h x).1 + 2, (fun k => if k = (SR h x).1 then (SR h x).2.1 x else if k = (SR h x).1 + 1 then r else (SR h x).2.1 k), (fun k => if k = (SR h x).1 then r else if k = (SR h x).1 + 1 then (SR h x).2.2.1 x else (SR h x).2.2.1 k), fun k => if k = x then (r : Int) else (SR h x).2.2.2 k) := by
    simp only [SR]
    rw [if_neg hn, hr, hr2]
  unfold SRc SRf SRt SRd
  rw [e]
  exact ⟨rfl, fun _ => rfl, fun _ => rfl, fun _ => rfl⟩
/-- the widths that wait -/
def ph (f t : Nat → Nat) (x : Nat) : Nat → Nat
  | 0 => 0
  | d + 1 => ph f t x d + (2 * (t (x + d) - f (x + d)) - 1)
theorem ph_head (f t : Nat → Nat) (x : Nat) : ∀ d, ph f t x (d + 1) = (2 * (t x - f x) - 1) + ph f t (x + 1) d
  | 0 => by simp [ph]
  | d + 1 => by
    have := ph_head f t x d
    simp only [ph] at this ⊢
    rw [show x + 1 + d = x + (d + 1) by omega]
    omega
theorem ph_congr {f t f' t' : Nat → Nat} {x : Nat} : ∀ {d : Nat}, (∀ k, x ≤ k → k < x + d → f k = f' k ∧ t k = t' k) → ph f t x d = ph f' t' x d
  | 0, _ => rfl
  | d + 1, h => by
    simp only [ph]
    rw [ph_congr (d := d) fun k h1 h2 => h k h1 (by omega), (h (x + d) (by omega) (by omega)).1, (h (x + d) (by omega) (by omega)).2]
theorem ph_ge {f t : Nat → Nat} {x : Nat} : ∀ {d : Nat}, (∀ k, x ≤ k → k < x + d → f k < t k) → d ≤ ph f t x d
  | 0, _ => Nat.le_refl _
  | d + 1, h => by
    have h1 := ph_ge (d := d) fun k h1 h2 => h k h1 (by omega)
    have h2 := h (x + d) (by omega) (by omega)
    simp only [ph]
    omega
def SRI (h : Nat → Int) (x : Nat) : Prop := x ≤ SRc h x ∧ (∀ k, k < SRc h x → SRf h x k < SRt h x k ∧ SRt h x k < PN h ∧ upL h (SRf h x k) ∧ upR h (SRt h x k)) ∧ x + ph (SRf h x) (SRt h x) x (SRc h x - x) ≤ 2375
theorem SRI_le {h : Nat → Int} {x : Nat} (hI : SRI h x) : SRc h x ≤ 2375 := by
  obtain ⟨h1, h2, h3⟩ := hI
  have := ph_ge (f := SRf h x) (t := SRt h x) (x := x) (d := SRc h x - x) fun k _ hk => (h2 k (by omega)).1
  omega
theorem SRI_0 {h : Nat → Int} (hs : stP h) : SRI h 0 := by
  have hN := PN_le h
  refine ⟨Nat.zero_le _, fun k hk => ?_, ?_⟩
  · have e : SRc h 0 = if PN h < 2 then 0 else 1 := rfl
    rw [e] at hk
    split at hk
    · omega
    · have e1 : SRf h 0 k = 0 := rfl
      have e2 : SRt h 0 k = PN h - 1 := rfl
      rw [e1, e2]
      refine ⟨by omega, by omega, ⟨0, 1, by omega, by omega, fun m hm => ?_⟩, ⟨1, 0, by omega, by omega, fun m hm => ?_⟩⟩
      · unfold vl
        rcases Nat.eq_zero_or_pos m with z | z
        · rw [z]; exact Int.le_refl _
        · have := PJ_lt hs z hm; omega
      · unfold vl
        rcases Nat.lt_or_ge m (PN h - 1) with z | z
        · have := PG_lt (h := h) z (by omega); omega
        · rw [show m = PN h - 1 by omega]; exact Int.le_refl _
  · have e : SRc h 0 = if PN h < 2 then 0 else 1 := rfl
    rw [e]
    split
    · simp [ph]
    · show 0 + ph (SRf h 0) (SRt h 0) 0 (1 - 0) ≤ 2375
      simp only [ph, Nat.sub_zero]
      have e1 : SRf h 0 (0 + 0) = 0 := rfl
      have e2 : SRt h 0 (0 + 0) = PN h - 1 := rfl
      rw [e1, e2]
      omega
theorem SRI_step {h : Nat → Int} (hs : stP h) {x : Nat} (hI : SRI h x) (hx : x < SRc h x) : SRI h (x + 1) := by
  obtain ⟨h1, h2, h3⟩ := hI
  obtain ⟨b1, b2, b3, b4⟩ := h2 x hx
  have hd : SRc h x - x = (SRc h x - (x + 1)) + 1 := by omega
  rw [hd, ph_head] at h3
  rcases fab_spec (h := h) (i := SRf h x x) (j := SRt h x x) with e | ⟨r, -, e, -, -⟩
  · obtain ⟨c1, c2, c3, -⟩ := SR_no e
    refine ⟨by omega, fun k hk => ?_, ?_⟩
    · rw [c2, c3]; exact h2 k (by omega)
    · rw [c1, ph_congr (f' := SRf h x) (t' := SRt h x) fun k _ _ => ⟨c2 k, c3 k⟩]
      omega
  · obtain ⟨m1, m2, m3, m4⟩ := fab_between hs b1 b2 b3 b4 e
    obtain ⟨c1, c2, c3, -⟩ := SR_ye e
    refine ⟨by omega, fun k hk => ?_, ?_⟩
    · rw [c2, c3]
      by_cases d1 : k = SRc h x
      · rw [if_pos d1, if_pos d1]; exact ⟨m1, by omega, b3, m4⟩
      · rw [if_neg d1, if_neg d1]
        by_cases d2 : k = SRc h x + 1
        · rw [if_pos d2, if_pos d2]; exact ⟨m2, b2, m3, b4⟩
        · rw [if_neg d2, if_neg d2]; exact h2 k (by omega)
    · rw [c1, show SRc h x + 2 - (x + 1) = (SRc h x - (x + 1)) + 1 + 1 by omega]
      simp only [ph]
      rw [show x + 1 + (SRc h x - (x + 1)) = SRc h x by omega, show x + 1 + (SRc h x - (x + 1) + 1) = SRc h x + 1 by omega, c2, c2, c3, c3, if_pos rfl, if_pos rfl, if_neg (show ¬ SRc h x + 1 = SRc h x by omega), if_pos rfl, if_neg (show ¬ SRc h x + 1 = SRc h x by omega), if_pos rfl]
      rw [ph_congr (f' := SRf h x) (t' := SRt h x) fun k _ hk => ⟨by rw [c2, if_neg (by omega), if_neg (by omega)], by rw [c3, if_neg (by omega), if_neg (by omega)]⟩]
      omega
/-- where the queue ends -/
def sfx (h : Nat → Int) : Nat → Nat → Nat
  | 0, x => x
  | d + 1, x => if SRc h x ≤ x then x else sfx h d (x + 1)
def SX (h : Nat → Int) : Nat := sfx h 2376 0
