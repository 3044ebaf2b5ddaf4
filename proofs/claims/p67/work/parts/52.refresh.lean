/-! THE FRONTIER LAID: the class's caches, the reference's rows -/
abbrev HH (s : Nat → Nat) : Nat → Int := HS s (s 1) 0
/-- the frontier of s lies in the class's rows -/
def frP (s : Nat → Nat) (size vc ac area : Int32) (pa g j ch ti li mk vp : Nat → Int32) : Prop :=
  size = iI (PN (HH s) : Nat) ∧ ac = iI (fb_ct (okS s (s 1) 0) (2 ^ s 0) : Nat) ∧ area = iI (AR (HH s)) ∧ ptA (HH s) pa ∧ ptG (HH s) g j ∧ coP s (s 1) (HH s) (2 ^ s 0) ti ch li ∧ (∀ n, n < PN (HH s) → mk n = iI (MK (HH s) n : Nat)) ∧ vxP (HH s) vc vp
/-- the caches: the flag is off, or all is that of s -/
def dkP (s : Nat → Nat) (ff sets lim must nev : Int32) (cw cg cj cb cn : Nat → Int32) (size vc ac area : Int32) (pa g j ch ti li mk vp : Nat → Int32) : Prop :=
  (cw 0 = 0 ∧ cg 0 = 0 ∧ cj 0 = 0 ∧ cb 0 = 0 ∧ cn 0 = 0) ∧ (ff = 0 ∨ ff = 1 ∧ chP s sets lim must nev cw cg cj cb cn ∧ frP s size vc ac area pa g j ch ti li mk vp)
theorem dkP_1 {s : Nat → Nat} {sets lim must nev : Int32} {cw cg cj cb cn : Nat → Int32} {size vc ac area : Int32} {pa g j ch ti li mk vp : Nat → Int32} (h1 : chP s sets lim must nev cw cg cj cb cn) (h2 : frP s size vc ac area pa g j ch ti li mk vp) : dkP s 1 sets lim must nev cw cg cj cb cn size vc ac area pa g j ch ti li mk vp := ⟨chP_zero h1, Or.inr ⟨rfl, h1, h2⟩⟩
theorem sp_frontier {s : Nat → Nat} (hW : WF s) {cap ac0 sets lim must nev size vc ac area : Int32} {ja cw cg cj cb cn pa g j ch ti li mk vp : Nat → Int32} (hcap : cap = iI (s 1)) (hP : chP s sets lim must nev cw cg cj cb cn) (hac : ac0 = iI (fb_ct (okS s (s 1) 0) (2 ^ s 0) : Nat)) (hja : ∀ k, k < 1189 → ja k = iI (HH s k))
    {Q : Int32 → Int32 → Int32 → Int32 → (Nat → Int32) → (Nat → Int32) → (Nat → Int32) → (Nat → Int32) → (Nat → Int32) → (Nat → Int32) → (Nat → Int32) → (Nat → Int32) → Prop}
    (hQ : ∀ size vc ac area pa g j ch ti li mk vp, frP s size vc ac area pa g j ch ti li mk vp → Q size vc ac area pa g j ch ti li mk vp) :
    wp_X2_build cap ac0 size vc ac area ja pa g j ch ti li mk sets lim must nev cg cj cw cb cn vp Q := by
  have hs := HS_stP hW (s 1) 0
  subst hcap
  unfold wp_X2_build
  refine sp_areaBelow hs hja (sp_readPoints hs hja fun pa g j c t l m h1 h2 h3 h4 h5 h6 => sp_readChoices hW hW.2.1 hs hP h1 h2.2 h4 fun t c l hC => sp_findVertices hs h2 rfl fun vc vp hV => sp_markSupported hs h2 hV h6 fun m hM => ?_)
  exact hQ _ _ _ _ _ _ _ _ _ _ _ _ ⟨rfl, hac, rfl, h1, h2, hC, hM, hV⟩
theorem sp_refresh {s : Nat → Nat} (hW : WF s) {items cap limit mus nve hand : Int32} {w g0 j0 b n : Nat → Int32} (hS : suP s items cap limit mus nve hand w g0 j0 b n) {ff sets lim must nev size vc ac area sac : Int32} {cw cg cj cb cn sja pa g j ch ti li mk vp : Nat → Int32} (hD : dkP s ff sets lim must nev cw cg cj cb cn size vc ac area pa g j ch ti li mk vp)
    {Q : Int32 → Int32 → Int32 → Int32 → Int32 → (Nat → Int32) → (Nat → Int32) → (Nat → Int32) → (Nat → Int32) → (Nat → Int32) → Int32 → (Nat → Int32) → Int32 → Int32 → Int32 → Int32 → (Nat → Int32) → (Nat → Int32) → (Nat → Int32) → (Nat → Int32) → (Nat → Int32) → (Nat → Int32) → (Nat → Int32) → (Nat → Int32) → Prop}
    (hQ : ∀ sets lim must nev cw cg cj cb cn sac sja size vc ac area pa g j ch ti li mk vp, chP s sets lim must nev cw cg cj cb cn → frP s size vc ac area pa g j ch ti li mk vp → Q 1 sets lim must nev cw cg cj cb cn sac sja size vc ac area pa g j ch ti li mk vp) :
    wp_X10_refreshFrontier ff items cap limit mus nve sets lim must nev cw w cg g0 cj j0 cb b cn n sac sja size vc ac area pa g j ch ti li mk vp Q := by
  obtain ⟨hz, hD⟩ := hD
  unfold wp_X10_refreshFrontier
  refine ⟨fun c => ?_, fun c => ?_⟩
  · rcases hD with h | ⟨h1, h2, h3⟩
    · exact absurd h c
    · rw [h1]; exact hQ _ _ _ _ _ _ _ _ _ _ _ _ _ _ _ _ _ _ _ _ _ _ _ h2 h3
  · refine sp_build hW hz hS fun se li mu ne w g j b n hP => ?_
    have hc := hS.2.1
    rw [hc, show (0 : Int32) = iI ((0 : Nat) : Int) from iI_lit 0]
    refine sp_stairs hW hW.2.1 (by omega) hP fun f hf => sp_frontier hW rfl hP rfl hf fun size vc ac area pa g j ch ti li mk vp hF => ?_
    exact hQ _ _ _ _ _ _ _ _ _ _ _ _ _ _ _ _ _ _ _ _ _ _ _ hP hF
theorem HH_stP {s : Nat → Nat} (hW : WF s) : stP (HH s) := HS_stP hW (s 1) 0
