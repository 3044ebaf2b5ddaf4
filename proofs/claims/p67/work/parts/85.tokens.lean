/-! TOKENS: both parsers cut the same ones -/
def byP (by_ : Nat → Int) : Prop := ∀ p, -128 ≤ by_ p ∧ by_ p ≤ 127
def txP (n : Nat) (by_ : Nat → Int) (text : Nat → Int32) : Prop := n ≤ 600 ∧ byP by_ ∧ ∀ p, p < n → text p = iI (by_ p)
abbrev ltr (b : Int) : Prop := 97 ≤ b ∧ b ≤ 122
abbrev dgi (b : Int) : Prop := 48 ≤ b ∧ b ≤ 57
abbrev blc (b : Int) : Prop := b = 32 ∨ b = 10
def blk (n : Nat) (by_ : Nat → Int) : Nat → Nat → Nat
  | 0, p => p
  | f + 1, p => if p < n ∧ blc (by_ p) then blk n by_ f (p + 1) else p
def lts (n : Nat) (by_ : Nat → Int) : Nat → Nat → Nat
  | 0, p => p
  | f + 1, p => if p < n ∧ ltr (by_ p) then lts n by_ f (p + 1) else p
def dgs (n : Nat) (by_ : Nat → Int) : Nat → Nat → Int → Nat × Int
  | 0, p, v => (p, v)
  | f + 1, p, v => if p < n ∧ dgi (by_ p) then dgs n by_ f (p + 1) (if 10 * v + by_ p - 48 < 100000 then 10 * v + by_ p - 48 else 100000) else (p, v)
abbrev bgn (n : Nat) (by_ : Nat → Int) (p : Nat) : Nat := blk n by_ (n - p) p
/-- the token behind p: its kind (0 end, 1 word, 2 number, 3 symbol), where it starts, where it ends, its number -/
def tkn (n : Nat) (by_ : Nat → Int) (p : Nat) : Nat × Nat × Nat × Int :=
  if bgn n by_ p < n then
    if ltr (by_ (bgn n by_ p)) then (1, bgn n by_ p, lts n by_ (n - bgn n by_ p) (bgn n by_ p), 0)
    else if dgi (by_ (bgn n by_ p)) then (2, bgn n by_ p, (dgs n by_ (n - bgn n by_ p) (bgn n by_ p) 0).1, (dgs n by_ (n - bgn n by_ p) (bgn n by_ p) 0).2)
    else (3, bgn n by_ p, bgn n by_ p + 1, 0)
  else (0, bgn n by_ p, bgn n by_ p, 0)
theorem blk_rng {n : Nat} {by_ : Nat → Int} : ∀ {f p : Nat}, p ≤ n → p ≤ blk n by_ f p ∧ blk n by_ f p ≤ n
  | 0, p, h => ⟨Nat.le_refl _, h⟩
  | f + 1, p, h => by
    simp only [blk]
    split
    · rename_i c
      have := blk_rng (by_ := by_) (f := f) (p := p + 1) (n := n) (by omega)
      omega
    · omega
theorem lts_rng {n : Nat} {by_ : Nat → Int} : ∀ {f p : Nat}, p ≤ n → p ≤ lts n by_ f p ∧ lts n by_ f p ≤ n
  | 0, p, h => ⟨Nat.le_refl _, h⟩
  | f + 1, p, h => by
    simp only [lts]
    split
    · rename_i c
      have := lts_rng (by_ := by_) (f := f) (p := p + 1) (n := n) (by omega)
      omega
    · omega
theorem dgs_rng {n : Nat} {by_ : Nat → Int} : ∀ {f p : Nat} {v : Int}, p ≤ n → 0 ≤ v ∧ v ≤ 100000 → (p ≤ (dgs n by_ f p v).1 ∧ (dgs n by_ f p v).1 ≤ n) ∧ 0 ≤ (dgs n by_ f p v).2 ∧ (dgs n by_ f p v).2 ≤ 100000
  | 0, p, v, h, hv => ⟨⟨Nat.le_refl _, h⟩, hv⟩
  | f + 1, p, v, h, hv => by
    simp only [dgs]
    split
    · rename_i c
      have h3 := c.2
      have : 0 ≤ (if 10 * v + by_ p - 48 < 100000 then 10 * v + by_ p - 48 else 100000) ∧ (if 10 * v + by_ p - 48 < 100000 then 10 * v + by_ p - 48 else 100000) ≤ 100000 := by
        split <;> omega
      have := dgs_rng (by_ := by_) (f := f) (p := p + 1) (n := n) (by omega) this
      omega
    · exact ⟨⟨Nat.le_refl _, h⟩, hv⟩
theorem tkn_rng {n : Nat} {by_ : Nat → Int} {p : Nat} (h : p ≤ n) : (tkn n by_ p).1 ≤ 3 ∧ p ≤ (tkn n by_ p).2.1 ∧ (tkn n by_ p).2.1 ≤ (tkn n by_ p).2.2.1 ∧ (tkn n by_ p).2.2.1 ≤ n ∧ 0 ≤ (tkn n by_ p).2.2.2 ∧ (tkn n by_ p).2.2.2 ≤ 100000 ∧ ((tkn n by_ p).1 = 3 → (tkn n by_ p).2.1 < n) := by
  have h1 : p ≤ bgn n by_ p ∧ bgn n by_ p ≤ n := blk_rng (by_ := by_) (f := n - p) h
  have h2 := lts_rng (by_ := by_) (f := n - bgn n by_ p) (p := bgn n by_ p) (n := n) h1.2
  have h3 := dgs_rng (by_ := by_) (f := n - bgn n by_ p) (p := bgn n by_ p) (n := n) (v := 0) h1.2 (by omega)
  unfold tkn
  split
  · split
    · exact ⟨(by decide : 1 ≤ 3), h1.1, h2.1, h2.2, (by decide : (0 : Int) ≤ 0), (by decide : (0 : Int) ≤ 100000), fun z => absurd (show (1 : Nat) = 3 from z) (by decide)⟩
    · split
      · exact ⟨(by decide : 2 ≤ 3), h1.1, h3.1.1, h3.1.2, h3.2.1, h3.2.2, fun z => absurd (show (2 : Nat) = 3 from z) (by decide)⟩
      · rename_i c _ _
        exact ⟨(by decide : 3 ≤ 3), h1.1, (by omega : bgn n by_ p ≤ bgn n by_ p + 1), c, (by decide : (0 : Int) ≤ 0), (by decide : (0 : Int) ≤ 100000), fun _ => c⟩
  · exact ⟨(by decide : 0 ≤ 3), h1.1, Nat.le_refl _, h1.2, (by decide : (0 : Int) ≤ 0), (by decide : (0 : Int) ≤ 100000), fun z => absurd (show (0 : Nat) = 3 from z) (by decide)⟩
theorem sp_isLetter {b : Int} (hb : -128 ≤ b ∧ b ≤ 255) {Q : Int32 → Prop} (hQ : Q (if ltr b then 1 else 0)) : wp_X5_isLetter (iI b) Q := by
  unfold wp_X5_isLetter
  rw [iI_lit 97, iI_lit 122, iI_lt (by omega) (by omega) (by omega) (by omega), iI_lt (by omega) (by omega) (by omega) (by omega)]
  refine ⟨fun c => ?_, fun c => ⟨fun d => ?_, fun d => ?_⟩⟩
  · rw [if_neg (by omega)] at hQ; exact hQ
  · rw [if_neg (by omega)] at hQ; exact hQ
  · rw [if_pos (by omega)] at hQ; exact hQ
theorem sp_isDigit {b : Int} (hb : -128 ≤ b ∧ b ≤ 255) {Q : Int32 → Prop} (hQ : Q (if dgi b then 1 else 0)) : wp_X5_isDigit (iI b) Q := by
  unfold wp_X5_isDigit
  rw [iI_lit 48, iI_lit 57, iI_lt (by omega) (by omega) (by omega) (by omega), iI_lt (by omega) (by omega) (by omega) (by omega)]
  refine ⟨fun c => ?_, fun c => ⟨fun d => ?_, fun d => ?_⟩⟩
  · rw [if_neg (by omega)] at hQ; exact hQ
  · rw [if_neg (by omega)] at hQ; exact hQ
  · rw [if_pos (by omega)] at hQ; exact hQ
theorem sl_adv0 {n : Nat} {by_ : Nat → Int} {t_text : Nat → Int32} {t_kind : Int32} {t_start : Int32} {t_value : Int32} {k52 : Int32 → Prop} {Q : Int32 → Int32 → Int32 → Int32 → Prop} (hT : txP n by_ t_text) : ∀ (d p : Nat), p + d = n → k52 (iI (blk n by_ d p : Nat)) → wp_X5_advance_L0 (iI (n:Nat)) t_text t_kind t_start t_value k52 Q (d + 1) (iI (p : Nat)) := by
  obtain ⟨hn, hb, ht⟩ := hT
  intro d
  induction d with
  | zero =>
    intro p hp hk
    obtain rfl : p = n := by omega
    unfold wp_X5_advance_L0
    exact ⟨fun _ => hk, fun z => absurd (Int32.le_refl _) z⟩
  | succ d ih =>
    intro p hp hk
    have b := hb p
    unfold wp_X5_advance_L0
    rw [iI_le (by omega) (by omega) (by omega) (by omega), iI_clN (by omega), ht p (by omega), iI_lit 32, iI_lit 10, iI_eq (by omega) (by omega) (by omega) (by omega), iI_eq (by omega) (by omega) (by omega) (by omega), iI_s1 p]
    simp only [blk] at hk
    refine ⟨fun z => by omega, fun _ => ⟨in_lit (by omega) (by omega), fun c => ?_, fun c => ⟨in_lit (by omega) (by omega), fun e => ?_, fun e => ?_⟩⟩⟩
    · rw [if_pos ⟨by omega, by omega⟩] at hk; exact ih (p + 1) (by omega) hk
    · rw [if_neg (by omega)] at hk; exact hk
    · rw [if_pos ⟨by omega, by omega⟩] at hk; exact ih (p + 1) (by omega) hk
theorem sl_adv104 {n : Nat} {by_ : Nat → Int} {t_text : Nat → Int32} {t_kind : Int32} {t_start : Int32} {t_value : Int32} {Q : Int32 → Int32 → Int32 → Int32 → Prop} (hT : txP n by_ t_text) : ∀ (d p : Nat), p + d = n → Q t_kind t_start (iI (lts n by_ d p : Nat)) t_value → wp_X5_advance_L104 (iI (n:Nat)) t_text t_kind t_start t_value Q (d + 1) (iI (p : Nat)) := by
  obtain ⟨hn, hb, ht⟩ := hT
  intro d
  induction d with
  | zero =>
    intro p hp hk
    obtain rfl : p = n := by omega
    unfold wp_X5_advance_L104
    exact ⟨fun _ => hk, fun z => absurd (Int32.le_refl _) z⟩
  | succ d ih =>
    intro p hp hk
    have b := hb p
    unfold wp_X5_advance_L104
    rw [iI_le (by omega) (by omega) (by omega) (by omega), iI_clN (by omega), ht p (by omega), iI_s1 p]
    simp only [lts] at hk
    refine ⟨fun z => by omega, fun _ => ⟨in_lit (by omega) (by omega), sp_isLetter (by omega) ?_⟩⟩
    by_cases c : ltr (by_ p)
    · rw [if_pos c]
      rw [if_pos ⟨by omega, c⟩] at hk
      exact ⟨fun z => absurd z (by decide), fun _ => ih (p + 1) (by omega) hk⟩
    · rw [if_neg c]
      rw [if_neg (fun z => c z.2)] at hk
      exact ⟨fun _ => hk, fun z => absurd rfl z⟩
theorem sl_adv163 {n : Nat} {by_ : Nat → Int} {t_text : Nat → Int32} {t_kind : Int32} {t_start : Int32} {Q : Int32 → Int32 → Int32 → Int32 → Prop} (hT : txP n by_ t_text) : ∀ (d p : Nat) (v : Int), 0 ≤ v ∧ v ≤ 100000 → p + d = n → Q t_kind t_start (iI ((dgs n by_ d p v).1 : Nat)) (iI (dgs n by_ d p v).2) → wp_X5_advance_L163 (iI (n:Nat)) t_text t_kind t_start Q (d + 1) (iI (p : Nat)) (iI v) := by
  obtain ⟨hn, hb, ht⟩ := hT
  intro d
  induction d with
  | zero =>
    intro p v hv hp hk
    obtain rfl : p = n := by omega
    unfold wp_X5_advance_L163
    exact ⟨fun _ => hk, fun z => absurd (Int32.le_refl _) z⟩
  | succ d ih =>
    intro p v hv hp hk
    have b := hb p
    unfold wp_X5_advance_L163
    rw [iI_le (by omega) (by omega) (by omega) (by omega), iI_clN (by omega), ht p (by omega), iI_s1 p]
    simp only [dgs] at hk
    refine ⟨fun z => by omega, fun _ => ⟨in_lit (by omega) (by omega), sp_isDigit (by omega) ?_⟩⟩
    by_cases c : dgi (by_ p)
    · rw [if_pos c]
      rw [if_pos ⟨by omega, c⟩] at hk
      refine ⟨fun z => absurd z (by decide), fun _ => ⟨in_lit (by omega) (by omega), fun w hw => ?_⟩⟩
      have e : (iI v * 10 + iI (by_ p)) - 48 = iI (10 * v + by_ p - 48) := by
        rw [show (10 : Int32) = iI 10 from rfl, show (48 : Int32) = iI 48 from rfl, iI_mul, iI_add, iI_sub, Int.mul_comm]
      rw [e] at hw
      have hlt : (iI (10 * v + by_ p - 48) < (100000 : Int32)) ↔ 10 * v + by_ p - 48 < 100000 := by
        rw [show (100000 : Int32) = iI 100000 from rfl]
        exact iI_lt (by omega) (by omega) (by omega) (by omega)
      have e2 : w = iI (if 10 * v + by_ p - 48 < 100000 then 10 * v + by_ p - 48 else 100000) := by
        rw [hw]
        by_cases q : 10 * v + by_ p - 48 < 100000
        · rw [if_pos q, if_pos (hlt.mpr q)]
        · rw [if_neg q, if_neg (fun z => q (hlt.mp z))]; rfl
      subst e2
      exact ih (p + 1) _ (by split <;> omega) (by omega) hk
    · rw [if_neg c]
      rw [if_neg (fun z => c z.2)] at hk
      exact ⟨fun _ => hk, fun z => absurd rfl z⟩
theorem sp_advance {n : Nat} {by_ : Nat → Int} {t_kind : Int32} {t_start : Int32} {t_value : Int32} {t_text : Nat → Int32} {Q : Int32 → Int32 → Int32 → Int32 → Prop} (hT : txP n by_ t_text) {p : Nat} (hp : p ≤ n) (hQ : Q (iI ((tkn n by_ p).1 : Nat)) (iI ((tkn n by_ p).2.1 : Nat)) (iI ((tkn n by_ p).2.2.1 : Nat)) (iI (tkn n by_ p).2.2.2)) : wp_X5_advance (iI (n:Nat)) t_kind t_start (iI (p:Nat)) t_value t_text Q := by
  have hT2 := hT
  obtain ⟨hn, hb, ht⟩ := hT2
  have h1 : p ≤ bgn n by_ p ∧ bgn n by_ p ≤ n := blk_rng (by_ := by_) (f := n - p) hp
  have b := hb (bgn n by_ p)
  unfold wp_X5_advance
  refine ⟨n - p + 1, sl_adv0 hT (n - p) p (by omega) ?_⟩
  rw [show blk n by_ (n - p) p = bgn n by_ p from rfl, iI_lt (by omega) (by omega) (by omega) (by omega), iI_clN (by omega)]
  unfold tkn at hQ
  refine ⟨fun c => ⟨in_lit (by omega) (by omega), ?_⟩, fun c => ?_⟩
  · rw [ht _ (by omega)]
    rw [if_pos (by omega)] at hQ
    refine sp_isLetter (by omega) ?_
    by_cases d : ltr (by_ (bgn n by_ p))
    · rw [if_pos d]
      rw [if_pos d] at hQ
      exact ⟨fun z => absurd z (by decide), fun _ => ⟨n - bgn n by_ p + 1, sl_adv104 hT (n - bgn n by_ p) (bgn n by_ p) (by omega) hQ⟩⟩
    · rw [if_neg d]
      rw [if_neg d] at hQ
      refine ⟨fun _ => ⟨in_lit (by omega) (by omega), sp_isDigit (by omega) ?_⟩, fun z => absurd rfl z⟩
      by_cases e : dgi (by_ (bgn n by_ p))
      · rw [if_pos e]
        rw [if_pos e] at hQ
        exact ⟨fun z => absurd z (by decide), fun _ => ⟨n - bgn n by_ p + 1, sl_adv163 hT (n - bgn n by_ p) (bgn n by_ p) 0 (by omega) (by omega) hQ⟩⟩
      · rw [if_neg e]
        rw [if_neg e] at hQ
        refine ⟨fun _ => ?_, fun z => absurd rfl z⟩
        rw [iI_s1]
        exact hQ
  · rw [if_neg (by omega)] at hQ
    exact hQ
