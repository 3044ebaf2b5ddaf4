/-! THE VERTICES -/
/-- above 0: point p lies above the line of points f and s -/
def cr (h : Nat → Int) (f s p : Nat) : Int := ((PG h p : Int) - PG h f) * (PJ h f - PJ h s) - (PJ h f - PJ h p) * ((PG h s : Int) - PG h f)
theorem mul_rng {a b : Int} (ha1 : -1188 ≤ a) (ha2 : a ≤ 1188) (hb1 : -1188 ≤ b) (hb2 : b ≤ 1188) : -1411344 ≤ a * b ∧ a * b ≤ 1411344 := by
  have h1 : (a * b).natAbs = a.natAbs * b.natAbs := Int.natAbs_mul a b
  have h2 : a.natAbs * b.natAbs ≤ 1188 * 1188 := Nat.mul_le_mul (by omega) (by omega)
  omega
theorem cr_rng {h : Nat → Int} (hs : stP h) {f s p : Nat} (hf : f < PN h) (hs2 : s < PN h) (hp : p < PN h) : -2822688 ≤ cr h f s p ∧ cr h f s p ≤ 2822688 := by
  have f1 := PG_rng hf
  have s1 := PG_rng hs2
  have p1 := PG_rng hp
  have f2 := PJ_rng hs hf
  have s2 := PJ_rng hs hs2
  have p2 := PJ_rng hs hp
  have m1 := mul_rng (a := (PG h p : Int) - PG h f) (b := PJ h f - PJ h s) (by omega) (by omega) (by omega) (by omega)
  have m2 := mul_rng (a := PJ h f - PJ h p) (b := (PG h s : Int) - PG h f) (by omega) (by omega) (by omega) (by omega)
  unfold cr
  omega
def popc (h : Nat → Int) (n : Nat) (vf : Nat → Nat) : Nat → Nat
  | 0 => 0
  | 1 => 1
  | c + 2 => if cr h (vf c) n (vf (c + 1)) ≤ 0 then popc h n vf (c + 1) else c + 2
def VS (h : Nat → Int) : Nat → Nat × (Nat → Nat)
  | 0 => (0, fun _ => 0)
  | n + 1 => (popc h n (VS h n).2 (VS h n).1 + 1, fun k => if k = popc h n (VS h n).2 (VS h n).1 then n else (VS h n).2 k)
theorem popc_le (h : Nat → Int) (n : Nat) (vf : Nat → Nat) : ∀ c, popc h n vf c ≤ c
  | 0 => Nat.le_refl 0
  | 1 => Nat.le_refl 1
  | c + 2 => by
    have := popc_le h n vf (c + 1)
    simp only [popc]
    split <;> omega
theorem VS_spec (h : Nat → Int) : ∀ n, (VS h n).1 ≤ n ∧ (∀ k, k < (VS h n).1 → (VS h n).2 k < n) ∧ ∀ k l, k < l → l < (VS h n).1 → (VS h n).2 k < (VS h n).2 l
  | 0 => ⟨Nat.le_refl 0, fun k hk => absurd hk (by simp [VS]), fun k l _ hl => absurd hl (by simp [VS])⟩
  | n + 1 => by
    obtain ⟨h1, h2, h3⟩ := VS_spec h n
    have hp := popc_le h n (VS h n).2 (VS h n).1
    simp only [VS]
    generalize popc h n (VS h n).2 (VS h n).1 = c at hp
    refine ⟨by omega, fun k hk => ?_, fun k l hkl hl => ?_⟩
    · by_cases e : k = c
      · rw [if_pos e]; omega
      · rw [if_neg e]
        have := h2 k (by omega)
        omega
    · rw [if_neg (show ¬ k = c by omega)]
      by_cases e : l = c
      · rw [if_pos e]; exact h2 k (by omega)
      · rw [if_neg e]; exact h3 k l hkl (by omega)
def VC (h : Nat → Int) : Nat := (VS h (PN h)).1
def VP (h : Nat → Int) : Nat → Nat := (VS h (PN h)).2
theorem VC_le (h : Nat → Int) : VC h ≤ PN h := (VS_spec h (PN h)).1
theorem VP_lt {h : Nat → Int} {k : Nat} (hk : k < VC h) : VP h k < PN h := (VS_spec h (PN h)).2.1 k hk
theorem VP_mono {h : Nat → Int} {k l : Nat} (hkl : k < l) (hl : l < VC h) : VP h k < VP h l := (VS_spec h (PN h)).2.2 k l hkl hl
/-- what rows of vertices hold -/
def vxP (h : Nat → Int) (vc : Int32) (vp : Nat → Int32) : Prop := vc = iI (VC h : Nat) ∧ ∀ k, k < VC h → vp k = iI (VP h k : Nat)
theorem sp_gainWon {h : Nat → Int} {gain joy : Nat → Int32} (hG : ptG h gain joy) {a b : Nat} (ha : a < PN h) (hb : b < PN h) {Q : Int32 → Prop} (hQ : Q (iI ((PG h b : Int) - PG h a))) : wp_X2_gainWon (iI (a : Nat)) (iI (b : Nat)) gain Q := by
  have hN := PN_le h
  unfold wp_X2_gainWon
  rw [iI_clN (by omega), iI_clN (by omega), hG.1 a ha, hG.1 b hb, iI_sub]
  exact ⟨in_lit (by omega) (by omega), in_lit (by omega) (by omega), hQ⟩
theorem sp_joyLost {h : Nat → Int} {gain joy : Nat → Int32} (hG : ptG h gain joy) {a b : Nat} (ha : a < PN h) (hb : b < PN h) {Q : Int32 → Prop} (hQ : Q (iI (PJ h a - PJ h b))) : wp_X2_joyLost (iI (a : Nat)) (iI (b : Nat)) joy Q := by
  have hN := PN_le h
  unfold wp_X2_joyLost
  rw [iI_clN (by omega), iI_clN (by omega), hG.2 a ha, hG.2 b hb, iI_sub]
  exact ⟨in_lit (by omega) (by omega), in_lit (by omega) (by omega), hQ⟩
theorem sp_heightOver {h : Nat → Int} {gain joy : Nat → Int32} (hG : ptG h gain joy) {f s p : Nat} (hf : f < PN h) (hs : s < PN h) (hp : p < PN h) {Q : Int32 → Prop} (hQ : Q (iI (cr h f s p))) : wp_X2_heightOver (iI (f : Nat)) (iI (s : Nat)) (iI (p : Nat)) gain joy Q := by
  unfold wp_X2_heightOver
  refine sp_gainWon hG hf hp (sp_joyLost hG hf hs (sp_joyLost hG hf hp (sp_gainWon hG hf hs ?_)))
  rw [iI_mul, iI_mul, iI_sub]
  exact hQ
theorem sp_findVertices {h : Nat → Int} (hs : stP h) {gain joy : Nat → Int32} (hG : ptG h gain joy) {size vc : Int32} (hsz : size = iI (PN h : Nat)) {vp : Nat → Int32} {Q : Int32 → (Nat → Int32) → Prop} (hQ : ∀ vc vp, vxP h vc vp → Q vc vp) : wp_X2_findVertices size vc vp gain joy Q := by
  have hN := PN_le h
  have k2 : ∀ {n : Nat} (_ : n < PN h) {vf : Nat → Nat} {arr : Nat → Int32} {K : Int32 → Prop} {Q : Int32 → (Nat → Int32) → Prop} (c : Nat), c ≤ n → (∀ k, k < c → arr k = iI (vf k : Nat)) → (∀ k, k < c → vf k < n) → K (iI (popc h n vf c : Nat)) → wp_X2_findVertices_L15 size gain joy (iI (n : Nat)) arr K Q (c + 1) (iI (c : Nat)) := by
    intro n hn vf arr K Q c
    induction c with
    | zero =>
      intro hc ha hv hK
      unfold wp_X2_findVertices_L15
      exact ⟨fun _ => hK, fun z => absurd (by decide) z⟩
    | succ c ih =>
      intro hc ha hv hK
      unfold wp_X2_findVertices_L15
      rw [iI_lit 2, iI_lt (by omega) (by omega) (by omega) (by omega)]
      cases c with
      | zero => exact ⟨fun _ => hK, fun z => absurd (by omega) z⟩
      | succ c =>
        have e2 : iI ((c + 1 + 1 : Nat) : Int) - iI ((2 : Nat) : Int) = iI (c : Nat) := by rw [iI_sub]; exact congrArg iI (by omega)
        have e1 : iI ((c + 1 + 1 : Nat) : Int) - (1 : Int32) = iI ((c + 1 : Nat) : Int) := by rw [iI_lit 1, iI_sub]; exact congrArg iI (by omega)
        rw [e2, e1, iI_clN (by omega), iI_clN (by omega), ha c (by omega), ha (c + 1) (by omega)]
        have v1 := hv c (by omega)
        have v2 := hv (c + 1) (by omega)
        refine ⟨fun z => absurd z (by omega), fun _ => ⟨in_lit (by omega) (by omega), in_lit (by omega) (by omega), sp_heightOver hG (by omega) hn (by omega) ?_⟩⟩
        have hr := cr_rng hs (f := vf c) (s := n) (p := vf (c + 1)) (by omega) hn (by omega)
        rw [iI_lit 0, iI_lt (by omega) (by omega) (by omega) (by omega)]
        simp only [popc] at hK
        refine ⟨fun z => ?_, fun z => ?_⟩
        · rw [if_neg (by omega)] at hK; exact hK
        · rw [if_pos (by omega)] at hK
          exact ih (by omega) (fun k hk => ha k (by omega)) (fun k hk => hv k (by omega)) hK
  have key : ∀ (d n : Nat) (arr : Nat → Int32), n + d = PN h → (∀ k, k < (VS h n).1 → arr k = iI ((VS h n).2 k : Nat)) → wp_X2_findVertices_L7 size gain joy Q (d + 1) (iI (n : Nat)) (iI ((VS h n).1 : Nat)) arr := by
    intro d
    induction d with
    | zero =>
      intro n arr hn ha
      unfold wp_X2_findVertices_L7
      obtain rfl : n = PN h := by omega
      rw [hsz]
      exact ⟨fun _ => hQ _ _ ⟨rfl, ha⟩, fun z => absurd (Int32.le_refl _) z⟩
    | succ d ih =>
      intro n arr hn ha
      obtain ⟨s1, s2, s3⟩ := VS_spec h n
      have hp := popc_le h n (VS h n).2 (VS h n).1
      unfold wp_X2_findVertices_L7
      have e0 : size ≤ iI (n : Nat) ↔ (PN h : Int) ≤ (n : Int) := by rw [hsz, iI_le (by omega) (by omega) (by omega) (by omega)]
      rw [e0]
      refine ⟨fun z => absurd z (by omega), fun _ => ⟨(VS h n).1 + 1, k2 (by omega) (VS h n).1 s1 ha s2 ⟨in_lit (by omega) (by omega), ?_⟩⟩⟩
      rw [iI_clN (by omega), iI_lit 1, iI_add, iI_add]
      refine ih (n + 1) _ (by omega) fun k hk => ?_
      simp only [VS] at hk ⊢
      by_cases e : k = popc h n (VS h n).2 (VS h n).1
      · rw [e, pk_us, if_pos rfl]
      · rw [pk_un e, if_neg e]
        exact ha k (by omega)
  unfold wp_X2_findVertices
  exact ⟨PN h + 1, by rw [iI_lit 0]; exact key (PN h) 0 vp (by omega) (fun k hk => absurd hk (by simp [VS]))⟩
