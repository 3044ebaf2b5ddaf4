/-! THE SEARCH RUN by both sides -/
theorem sp_findAbove {h : Nat → Int} (hs : stP h) {gain joy : Nat → Int32} (hG : ptG h gain joy) {size : Int32} (hsz : size = iI (PN h : Nat)) {i j : Nat} (hij : i < j) (hj : j < PN h) {Q : Int32 → Prop} (hQ : Q (iI (fab h i j))) : wp_X7_findAbove (iI (i : Nat)) (iI (j : Nat)) size joy gain Q := by
  have hN := PN_le h
  have hi : i < PN h := by omega
  have g1 := PG_lt hij hj
  have j1 := PJ_lt hs hij hj
  have gi := PG_rng hi
  have gj := PG_rng hj
  have ji := PJ_rng hs hi
  have jj := PJ_rng hs hj
  unfold wp_X7_findAbove
  refine sp_joyLost hG hi hj (sp_gainWon hG hi hj (sp_greatestBy hs hG hsz (by omega) (by omega) (by omega) (by omega) ?_))
  obtain ⟨r, hr, e⟩ := gb_pos (v := vl h (PJ h i - PJ h j) ((PG h j : Int) - PG h i)) (n := PN h) (by omega)
  have rv := fun n (hn : n < PN h) => vl_rng hs (p := PJ h i - PJ h j) (q := (PG h j : Int) - PG h i) (by omega) (by omega) (by omega) (by omega) hn
  have r1 := rv r hr
  have r2 := rv i hi
  have e' : gb (vab h i j) (PN h) = (r : Int) := e
  unfold fab at hQ
  rw [e', if_neg (by omega), Int.toNat_natCast] at hQ
  rw [e]
  refine ⟨fun z => absurd z (by rw [iI_m1, iI_eq (by omega) (by omega) (by omega) (by omega)]; omega), fun _ => sp_valueOf hG hr (sp_valueOf hG hi ?_)⟩
  rw [iI_le (by omega) (by omega) (by omega) (by omega)]
  refine ⟨fun c => ?_, fun c => ?_⟩
  · rw [if_pos (show vab h i j r ≤ vab h i j i from c)] at hQ
    rw [iI_m1]
    exact hQ
  · rw [if_neg (show ¬ vab h i j r ≤ vab h i j i from c)] at hQ
    exact hQ
/-- the steps lie in three rows -/
def runP (h : Nat → Int) (c : Int32) (f t d : Nat → Int32) : Prop := c = iI (SX h : Nat) ∧ ∀ k, k < SX h → f k = iI (SRf h (SX h) k : Nat) ∧ t k = iI (SRt h (SX h) k : Nat) ∧ d k = iI (SRd h (SX h) k)
theorem sl_run {h : Nat → Int} (hs : stP h) {gain joy : Nat → Int32} (hG : ptG h gain joy) {size : Int32} (hsz : size = iI (PN h : Nat)) {Q : Int32 → (Nat → Int32) → (Nat → Int32) → (Nat → Int32) → Prop} (hQ : ∀ c f t d, runP h c f t d → Q c f t d) :
    ∀ (d x : Nat) (c : Int32) (f t fd : Nat → Int32), x + d = 2376 → sfx h d x = SX h → SRI h x → c = iI (SRc h x : Nat) → (∀ k, k < SRc h x → f k = iI (SRf h x k : Nat) ∧ t k = iI (SRt h x k : Nat)) → (∀ k, k < x → fd k = iI (SRd h x k)) → wp_X7_run_L26 size joy gain Q (d + 1) (iI (x : Nat)) c f t fd := by
  have hN := PN_le h
  intro d
  induction d with
  | zero =>
    intro x c f t fd hx hsf hI
    have := SRI_le hI
    have := hI.1
    omega
  | succ d ih =>
    intro x c f t fd hx hsf hI hc hft hfd
    have hle := SRI_le hI
    have hx1 := hI.1
    subst hc
    unfold wp_X7_run_L26
    rw [iI_le (by omega) (by omega) (by omega) (by omega), iI_succ]
    refine ⟨fun z => ?_, fun z => ?_⟩
    · have e : SRc h x = x := by omega
      have eX : SX h = x := by
        rw [← hsf]
        simp only [sfx]
        rw [if_pos (by omega)]
      refine hQ _ _ _ _ ⟨by rw [eX, e], fun k hk => ?_⟩
      rw [eX] at hk ⊢
      obtain ⟨a, b⟩ := hft k (by omega)
      exact ⟨a, b, hfd k hk⟩
    have hin : vp_in (iI (x : Nat)) 2378 := in_lit (by omega) (by omega)
    have hsf2 : sfx h d (x + 1) = SX h := by
      rw [← hsf]
      simp only [sfx]
      rw [if_neg (by omega)]
    have hI2 := SRI_step hs hI (by omega)
    obtain ⟨b1, b2, b3, b4⟩ := hI.2.1 x (by omega)
    obtain ⟨a1, a2⟩ := hft x (by omega)
    rw [iI_lit 2378, iI_le (by omega) (by omega) (by omega) (by omega), iI_clN (by omega), a1, a2]
    refine ⟨fun w => absurd w (by omega), fun _ => ⟨hin, hin, sp_findAbove hs hG hsz b1 b2 ⟨hin, hin, ?_⟩⟩⟩
    rw [pk_us]
    rcases fab_spec (h := h) (i := SRf h x x) (j := SRt h x x) with e | ⟨r, hr, e, -, -⟩
    · obtain ⟨c1, c2, c3, c4⟩ := SR_no e
      rw [e]
      refine ⟨fun _ => ih (x + 1) _ f t _ (by omega) hsf2 hI2 (by rw [c1]) (fun k hk => ?_) (fun k hk => ?_), fun w => absurd iI_m1.symm w⟩
      · rw [c2, c3]; exact hft k (by omega)
      · rw [c4]
        by_cases q : k = x
        · rw [q, pk_us, if_pos rfl]
        · rw [pk_un q, if_neg q]; exact hfd k (by omega)
    · obtain ⟨c1, c2, c3, c4⟩ := SR_ye e
      have hle2 := SRI_le hI2
      rw [e]
      refine ⟨fun w => absurd w (by rw [iI_m1, iI_eq (by omega) (by omega) (by omega) (by omega)]; omega), fun _ => ⟨hin, hin, ?_⟩⟩
      unfold wp_X7_enqueue
      dsimp only
      have hin2 : vp_in (iI (SRc h x : Nat)) 2378 := in_lit (by omega) (by omega)
      have hin3 : vp_in (iI ((SRc h x + 1 : Nat) : Int)) 2378 := in_lit (by omega) (by omega)
      have ex : iI (SRc h x : Nat) + (1 : Int32) = iI ((SRc h x + 1 : Nat) : Int) := iI_succ _
      have ex2 : iI ((SRc h x + 1 : Nat) : Int) + (1 : Int32) = iI ((SRc h x + 2 : Nat) : Int) := iI_succ _
      rw [ex, ex2, iI_lit 2378, iI_le (by omega) (by omega) (by omega) (by omega), iI_clN (by omega)]
      refine ⟨fun w => absurd w (by omega), fun _ => ⟨hin2, hin2, hin, hin, ?_⟩⟩
      rw [iI_le (by omega) (by omega) (by omega) (by omega), iI_clN (by omega), pk_un (show x ≠ SRc h x by omega), a2]
      refine ⟨fun w => absurd w (by omega), fun _ => ⟨hin3, hin3, ih (x + 1) _ _ _ _ (by omega) hsf2 hI2 (by rw [c1]) (fun k hk => ?_) (fun k hk => ?_)⟩⟩
      · rw [c2, c3]
        by_cases q1 : k = SRc h x
        · rw [if_pos q1, if_pos q1, pk_un (show k ≠ SRc h x + 1 by omega), pk_un (show k ≠ SRc h x + 1 by omega), q1, pk_us, pk_us]
          exact ⟨rfl, rfl⟩
        · rw [if_neg q1, if_neg q1]
          by_cases q2 : k = SRc h x + 1
          · rw [if_pos q2, if_pos q2, q2, pk_us, pk_us]
            exact ⟨rfl, rfl⟩
          · rw [if_neg q2, if_neg q2, pk_un q2, pk_un q2, pk_un q1, pk_un q1]
            exact hft k (by omega)
      · rw [c4]
        by_cases q : k = x
        · rw [q, pk_us, if_pos rfl]
        · rw [pk_un q, if_neg q]; exact hfd k (by omega)
theorem sp_run {h : Nat → Int} (hs : stP h) {gain joy : Nat → Int32} (hG : ptG h gain joy) {size c : Int32} (hsz : size = iI (PN h : Nat)) {f t d : Nat → Int32} {Q : Int32 → (Nat → Int32) → (Nat → Int32) → (Nat → Int32) → Prop} (hQ : ∀ c f t d, runP h c f t d → Q c f t d) : wp_X7_run c size f t joy gain d Q := by
  have hN := PN_le h
  have e0 : SRc h 0 = if PN h < 2 then 0 else 1 := rfl
  have go := sl_run hs hG hsz hQ 2376 0
  unfold wp_X7_run
  rw [hsz, iI_lit 2, iI_lt (by omega) (by omega) (by omega) (by omega)]
  rw [hsz] at go
  refine ⟨fun w => ⟨2377, ?_⟩, fun w => ?_⟩
  · rw [show (0 : Int32) = iI ((0 : Nat) : Int) from iI_lit 0]
    refine go _ f t d (by omega) rfl (SRI_0 hs) ?_ (fun k hk => ?_) (fun k hk => absurd hk (by omega))
    · rw [e0, if_pos (by omega)]
    · rw [e0, if_pos (by omega)] at hk; omega
  · unfold wp_X7_enqueue
    refine ⟨fun z => absurd z (by decide), fun _ => ⟨by rw [vp_in_iff]; decide, by rw [vp_in_iff]; decide, 2377, ?_⟩⟩
    have e1 : (0 : Int32).toNatClampNeg = 0 := by decide
    have e2 : iI (PN h : Nat) - (1 : Int32) = iI ((PN h - 1 : Nat) : Int) := by
      rw [iI_lit 1, iI_sub]
      exact congrArg iI (by omega)
    rw [e1, e2]
    have q := go ((0 : Int32) + 1) (upd f 0 0) (upd t 0 (iI ((PN h - 1 : Nat) : Int))) d (by omega) rfl (SRI_0 hs) (by rw [e0, if_neg (by omega)]; decide) (fun k hk => ?_) (fun k hk => absurd hk (by omega))
    · rw [show iI ((0 : Nat) : Int) = (0 : Int32) from (iI_lit 0).symm] at q
      exact q
    · rw [e0, if_neg (by omega)] at hk
      rw [show k = 0 by omega, pk_us, pk_us]
      exact ⟨iI_lit 0, rfl⟩
