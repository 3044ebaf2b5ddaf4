/-! THE AREA below stairs -/
def arB (h : Nat → Int) : Nat → Int
  | 0 => 0
  | x + 1 => if h x = -1 then arB h x else x
def arA (h : Nat → Int) : Nat → Int
  | 0 => 0
  | x + 1 => if h x = -1 then arA h x else arA h x + ((x : Int) - arB h x) * h x
def prv (h : Nat → Int) : Nat → Int
  | 0 => 0
  | n + 1 => (PG h n : Int)
def apt (h : Nat → Int) : Nat → Int
  | 0 => 0
  | n + 1 => apt h n + ((PG h n : Int) - prv h n) * PJ h n
theorem arA_apt (h : Nat → Int) : ∀ x, x ≤ 1189 → arA h x = apt h (PI h x) ∧ arB h x = prv h (PI h x)
  | 0, _ => ⟨rfl, rfl⟩
  | x + 1, hx => by
    obtain ⟨h1, h2⟩ := arA_apt h x (by omega)
    simp only [arA, arB]
    by_cases c : h x = -1
    · rw [if_pos c, if_pos c, PI_skip c]
      exact ⟨h1, h2⟩
    · rw [if_neg c, if_neg c, PI_succ c]
      simp only [apt, prv]
      have e : PG h (PI h x) = x := PG_PI (by omega) c
      have e2 : PJ h (PI h x) = h x := by unfold PJ; rw [e]
      rw [e2, e, h1, h2]
      exact ⟨rfl, rfl⟩
def AR (h : Nat → Int) : Int := apt h (PN h)
theorem AR_arA (h : Nat → Int) : arA h 1189 = AR h := (arA_apt h 1189 (Nat.le_refl _)).1
theorem sp_areaBelow {h : Nat → Int} (hs : stP h) {joyAt : Nat → Int32} (hj : ∀ g, g < 1189 → joyAt g = iI (h g)) {Q : Int32 → Prop} (hQ : Q (iI (AR h))) : wp_X9_areaBelow joyAt Q := by
  have key : ∀ (d x : Nat), x + d = 1189 → wp_X9_areaBelow_L6 joyAt Q (d + 1) (iI (arA h x)) (iI (arB h x)) (iI (x : Nat)) := by
    intro d
    induction d with
    | zero =>
      intro x hx
      unfold wp_X9_areaBelow_L6
      obtain rfl : x = 1189 := by omega
      rw [AR_arA]
      exact ⟨fun _ => hQ, fun c => absurd (by decide) c⟩
    | succ d ih =>
      intro x hx
      have hr := hs.1 x
      have := ih (x + 1) (by omega)
      simp only [arA, arB] at this
      unfold wp_X9_areaBelow_L6
      rw [iI_lit 1189, iI_le (by omega) (by omega) (by omega) (by omega), iI_clN (by omega), hj x (by omega), iI_succ, iI_m1, iI_eq (by omega) (by omega) (by omega) (by omega)]
      refine ⟨fun c => absurd c (by omega), fun _ => ⟨in_lit (by omega) (by omega), fun c => ?_, fun c => ⟨in_lit (by omega) (by omega), fun v hv => ?_⟩⟩⟩
      · rw [if_pos c, if_pos c] at this; exact this
      · rw [if_neg c, if_neg c] at this
        rw [iI_sub, iI_mul, iI_add] at hv
        subst hv
        exact this
  unfold wp_X9_areaBelow
  exact ⟨1190, by rw [iI_lit 0]; exact key 1189 0 (by omega)⟩
/-! THE CHOICES of the points -/
/-- the point whose pair a set has, or -1 -/
def PB (s : Nat → Nat) (h : Nat → Int) (q : Nat) : Int := if h (sm s 1 q (s 0)) = (sm s 2 q (s 0) : Int) then (PI h (sm s 1 q (s 0)) : Int) else -1
def tmF (s : Nat → Nat) (cap : Nat) (h : Nat → Int) : Nat → Nat → Nat
  | 0, _ => 0
  | m + 1, n => if rf s cap m = 0 ∧ PB s h m = (n : Int) then tmF s cap h m n + 1 else tmF s cap h m n
def chF (s : Nat → Nat) (cap : Nat) (h : Nat → Int) : Nat → Nat → Nat
  | 0, _ => 0
  | m + 1, n => if rf s cap m = 0 ∧ PB s h m = (n : Int) ∧ tmF s cap h m n = 0 then m else chF s cap h m n
def ltF (s : Nat → Nat) (cap : Nat) (h : Nat → Int) : Nat → Nat → Nat
  | 0, _ => 0
  | m + 1, n => if rf s cap m = 0 ∧ PB s h m = (n : Int) ∧ (tmF s cap h m n = 0 ∨ sm s 0 m (s 0) < sm s 0 (ltF s cap h m n) (s 0)) then m else ltF s cap h m n
theorem tmF_le {s : Nat → Nat} {cap : Nat} {h : Nat → Int} : ∀ m n, tmF s cap h m n ≤ m
  | 0, _ => Nat.le_refl 0
  | m + 1, n => by
    have := tmF_le (s := s) (cap := cap) (h := h) m n
    simp only [tmF]
    split <;> omega
theorem chF_lt {s : Nat → Nat} {cap : Nat} {h : Nat → Int} : ∀ m n, chF s cap h m n = 0 ∨ chF s cap h m n < m
  | 0, _ => Or.inl rfl
  | m + 1, n => by
    have := chF_lt (s := s) (cap := cap) (h := h) m n
    simp only [chF]
    split <;> omega
theorem ltF_lt {s : Nat → Nat} {cap : Nat} {h : Nat → Int} : ∀ m n, ltF s cap h m n = 0 ∨ ltF s cap h m n < m
  | 0, _ => Or.inl rfl
  | m + 1, n => by
    have := ltF_lt (s := s) (cap := cap) (h := h) m n
    simp only [ltF]
    split <;> omega
theorem PB_rng {s : Nat → Nat} (hW : WF s) {h : Nat → Int} (hs : stP h) (q : Nat) : PB s h q = -1 ∨ ∃ n : Nat, n < PN h ∧ PB s h q = (n : Int) := by
  have hg : sm s 1 q (s 0) ≤ 1188 := sm_bd hW (by omega) q
  unfold PB
  by_cases c : h (sm s 1 q (s 0)) = (sm s 2 q (s 0) : Int)
  · rw [if_pos c]
    exact Or.inr ⟨PI h (sm s 1 q (s 0)), PI_lt_N (by omega) (by omega), rfl⟩
  · rw [if_neg c]
    exact Or.inl rfl
/-- rows of points hold the choices among the sets below m -/
def coP (s : Nat → Nat) (cap : Nat) (h : Nat → Int) (m : Nat) (times choice light : Nat → Int32) : Prop :=
  (∀ n, n < PN h → times n = iI (tmF s cap h m n : Nat)) ∧ (∀ n, n < PN h → 0 < tmF s cap h m n → choice n = iI (chF s cap h m n : Nat)) ∧ ∀ n, n < PN h → 0 < tmF s cap h m n → light n = iI (ltF s cap h m n : Nat)
theorem coP_skip {s : Nat → Nat} {cap : Nat} {h : Nat → Int} {m : Nat} {t c l : Nat → Int32} (hc : coP s cap h m t c l) (hno : ∀ n : Nat, n < PN h → ¬ (rf s cap m = 0 ∧ PB s h m = (n : Int))) : coP s cap h (m + 1) t c l := by
  obtain ⟨h1, h2, h3⟩ := hc
  refine ⟨fun n hn => ?_, fun n hn => ?_, fun n hn => ?_⟩
  · simp only [tmF]; rw [if_neg (hno n hn)]; exact h1 n hn
  · simp only [tmF, chF]; rw [if_neg (hno n hn), if_neg (fun z => hno n hn ⟨z.1, z.2.1⟩)]; exact h2 n hn
  · simp only [tmF, ltF]; rw [if_neg (hno n hn), if_neg (fun z => hno n hn ⟨z.1, z.2.1⟩)]; exact h3 n hn
/-- one more set, of point n: the first one, a lighter one, or another -/
theorem coP_step {s : Nat → Nat} {cap : Nat} {h : Nat → Int} {m n : Nat} {t c l c' l' : Nat → Int32} (hc : coP s cap h m t c l) (hn : n < PN h) (hr : rf s cap m = 0) (hb : PB s h m = (n : Int))
    (e1 : tmF s cap h m n = 0 → c' n = iI (m : Nat) ∧ l' n = iI (m : Nat)) (e2 : 0 < tmF s cap h m n → c' n = c n) (e3 : 0 < tmF s cap h m n → sm s 0 m (s 0) < sm s 0 (ltF s cap h m n) (s 0) → l' n = iI (m : Nat)) (e4 : 0 < tmF s cap h m n → ¬ sm s 0 m (s 0) < sm s 0 (ltF s cap h m n) (s 0) → l' n = l n)
    (ec : ∀ k, k ≠ n → c' k = c k) (el : ∀ k, k ≠ n → l' k = l k) : coP s cap h (m + 1) (upd t n (t n + (1 : Int32))) c' l' := by
  obtain ⟨h1, h2, h3⟩ := hc
  have ne : ∀ k : Nat, k ≠ n → ¬ PB s h m = (k : Int) := fun k hk z => hk (by rw [hb] at z; omega)
  refine ⟨fun k hk => ?_, fun k hk => ?_, fun k hk => ?_⟩
  · simp only [tmF]
    by_cases e : k = n
    · subst e
      rw [pk_us, if_pos ⟨hr, hb⟩, h1 k hk, iI_lit 1, iI_add]
      rfl
    · rw [pk_un e, if_neg (fun z => ne k e z.2)]
      exact h1 k hk
  · simp only [tmF, chF]
    by_cases e : k = n
    · subst e
      rw [if_pos ⟨hr, hb⟩]
      intro _
      rcases Nat.eq_zero_or_pos (tmF s cap h m k) with z | z
      · rw [if_pos ⟨hr, hb, z⟩]; exact (e1 z).1
      · rw [if_neg (fun q => by omega), e2 z]; exact h2 k hk z
    · rw [if_neg (fun z => ne k e z.2), if_neg (fun z => ne k e z.2.1), ec k e]
      exact h2 k hk
  · simp only [tmF, ltF]
    by_cases e : k = n
    · subst e
      rw [if_pos ⟨hr, hb⟩]
      intro _
      rcases Nat.eq_zero_or_pos (tmF s cap h m k) with z | z
      · rw [if_pos ⟨hr, hb, Or.inl z⟩]; exact (e1 z).2
      · by_cases w : sm s 0 m (s 0) < sm s 0 (ltF s cap h m k) (s 0)
        · rw [if_pos ⟨hr, hb, Or.inr w⟩]; exact e3 z w
        · rw [if_neg (fun q => by rcases q.2.2 with q | q <;> omega), e4 z w]; exact h3 k hk z
    · rw [if_neg (fun z => ne k e z.2), if_neg (fun z => ne k e z.2.1), el k e]
      exact h3 k hk
