/-! THE DESK OF THE LAW: one setup s, text by_ of n bytes, what the last load told -/
def IV (s : Nat → Nat) (n : Nat) (by_ : Nat → Int) (cc pp : Int) (d : DT) : Prop := WF s ∧ ∃ ps : List (Nat → Nat), ps.length ≤ 8 ∧ suP s (d.1 20) (d.1 21) (d.1 22) (d.1 23) (d.1 24) (d.1 25) (d.2.1 7) (d.2.1 8) (d.2.1 9) (d.2.1 10) (d.2.1 11) ∧ paP ps (d.1 19) d.2.2.2.1 d.2.2.2.2 ∧ (d.1 0 = iI (n : Nat) ∧ inP n by_ (d.2.1 0)) ∧ (d.1 1 = iI cc ∧ d.1 2 = iI pp) ∧ dkP s (d.1 3) (d.1 26) (d.1 27) (d.1 28) (d.1 29) (d.2.1 12) (d.2.1 13) (d.2.1 14) (d.2.1 15) (d.2.1 16) (d.1 31) (d.1 32) (d.1 33) (d.1 34) (d.2.1 18) (d.2.1 19) (d.2.1 20) (d.2.1 21) (d.2.1 22) (d.2.1 23) (d.2.1 24) (d.2.1 25) ∧ lfP s (d.1 5) (d.1 35) (d.2.1 27) (d.2.1 32)
theorem sK_allowed {s : Nat → Nat} {n : Nat} {by_ : Nat → Int} {cc pp : Int} {d : DT} (h : IV s n by_ cc pp d) {Q : Int32 → DT → Prop} (hQ : ∀ d2, IV s n by_ cc pp d2 → Q (iI (ALW s : Nat)) d2) : wpK_X10_allowed d Q := by
  obtain ⟨hW, ps, hl, hS, hP, hI, hC, hD, hL⟩ := h
  unfold wpK_X10_allowed
  exact sq_allowed hW hS hD (fun ff sets lim must nev cw cg cj cb cn sac sja size vc ac area pa g j ch ti li mk vp hd => hQ _ ⟨hW, ps, hl, hS, hP, hI, hC, hd, hL⟩)
theorem sK_points {s : Nat → Nat} {n : Nat} {by_ : Nat → Int} {cc pp : Int} {d : DT} (h : IV s n by_ cc pp d) {Q : Int32 → DT → Prop} (hQ : ∀ d2, IV s n by_ cc pp d2 → Q (iI (PN (HH s) : Nat)) d2) : wpK_X10_points d Q := by
  obtain ⟨hW, ps, hl, hS, hP, hI, hC, hD, hL⟩ := h
  unfold wpK_X10_points
  exact sq_points hW hS hD (fun ff sets lim must nev cw cg cj cb cn sac sja size vc ac area pa g j ch ti li mk vp hd => hQ _ ⟨hW, ps, hl, hS, hP, hI, hC, hd, hL⟩)
theorem sK_area {s : Nat → Nat} {n : Nat} {by_ : Nat → Int} {cc pp : Int} {d : DT} (h : IV s n by_ cc pp d) {Q : Int32 → DT → Prop} (hQ : ∀ d2, IV s n by_ cc pp d2 → Q (iI (AR (HH s))) d2) : wpK_X10_area d Q := by
  obtain ⟨hW, ps, hl, hS, hP, hI, hC, hD, hL⟩ := h
  unfold wpK_X10_area
  exact sq_area hW hS hD (fun ff sets lim must nev cw cg cj cb cn sac sja size vc ac area pa g j ch ti li mk vp hd => hQ _ ⟨hW, ps, hl, hS, hP, hI, hC, hd, hL⟩)
theorem sK_share {s : Nat → Nat} {n : Nat} {by_ : Nat → Int} {cc pp : Int} {d : DT} (h : IV s n by_ cc pp d) {Q : UInt64 → DT → Prop} (hQ : ∀ d2, IV s n by_ cc pp d2 → Q (shv s) d2) : wpK_X10_share d Q := by
  obtain ⟨hW, ps, hl, hS, hP, hI, hC, hD, hL⟩ := h
  unfold wpK_X10_share
  exact sq_share hW hS hD (fun ff sets lim must nev cw cg cj cb cn sac sja size vc ac area pa g j ch ti li mk vp hd => hQ _ ⟨hW, ps, hl, hS, hP, hI, hC, hd, hL⟩)
theorem sK_layers {s : Nat → Nat} {n : Nat} {by_ : Nat → Int} {cc pp : Int} {d : DT} (h : IV s n by_ cc pp d) {Q : Int32 → DT → Prop} (hQ : ∀ d2, IV s n by_ cc pp d2 → Q (iI (LC s : Nat)) d2) : wpK_X10_layers d Q := by
  obtain ⟨hW, ps, hl, hS, hP, hI, hC, hD, hL⟩ := h
  unfold wpK_X10_layers
  exact sq_layers hW hS hD hL (fun ff lf sets lim must nev cw cg cj cb cn sac sja size vc ac area pa g j ch ti li mk vp lc lfj lly lnj lfg lng ltj lzz hd he => hQ _ ⟨hW, ps, hl, hS, hP, hI, hC, hd, he⟩)
theorem sK_refusal {s : Nat → Nat} {n : Nat} {by_ : Nat → Int} {cc pp : Int} {d : DT} (h : IV s n by_ cc pp d) {p1 : Int32} {Q : Int32 → DT → Prop} (h1 : 0 ≤ p1.toInt ∧ p1.toInt < ((2 ^ s 0 : Nat) : Int)) (hQ : ∀ d2, IV s n by_ cc pp d2 → Q (iI (rf s (s 1) p1.toInt.toNat : Nat)) d2) : wpK_X10_refusal p1 d Q := by
  obtain ⟨hW, ps, hl, hS, hP, hI, hC, hD, hL⟩ := h
  unfold wpK_X10_refusal
  exact sq_refusal hW hS hD (fun _ => fun ff sets lim must nev cw cg cj cb cn sac sja size vc ac area pa g j ch ti li mk vp hd => hQ _ ⟨hW, ps, hl, hS, hP, hI, hC, hd, hL⟩) (fun c => absurd h1 c)
theorem sK_sum {s : Nat → Nat} {n : Nat} {by_ : Nat → Int} {cc pp : Int} {d : DT} (h : IV s n by_ cc pp d) {p1 p2 : Int32} {Q : Int32 → DT → Prop} (h1 : 0 ≤ p1.toInt ∧ p1.toInt < ((2 ^ s 0 : Nat) : Int)) (h2 : 0 ≤ p2.toInt ∧ p2.toInt ≤ 2) (hQ : ∀ d2, IV s n by_ cc pp d2 → Q (iI (sm s p2.toInt.toNat p1.toInt.toNat (s 0) : Nat)) d2) : wpK_X10_sum p1 p2 d Q := by
  obtain ⟨hW, ps, hl, hS, hP, hI, hC, hD, hL⟩ := h
  unfold wpK_X10_sum
  exact sq_sum hW hS hD (fun _ _ => fun ff sets lim must nev cw cg cj cb cn sac sja size vc ac area pa g j ch ti li mk vp hd => hQ _ ⟨hW, ps, hl, hS, hP, hI, hC, hd, hL⟩) (fun c => absurd ⟨h1, h2⟩ c)
theorem sK_pointOf {s : Nat → Nat} {n : Nat} {by_ : Nat → Int} {cc pp : Int} {d : DT} (h : IV s n by_ cc pp d) {p1 : Int32} {Q : Int32 → DT → Prop} (h1 : 0 ≤ p1.toInt ∧ p1.toInt < ((2 ^ s 0 : Nat) : Int)) (hQ : ∀ d2, IV s n by_ cc pp d2 → Q (iI (PB s (HH s) p1.toInt.toNat)) d2) : wpK_X10_pointOf p1 d Q := by
  obtain ⟨hW, ps, hl, hS, hP, hI, hC, hD, hL⟩ := h
  unfold wpK_X10_pointOf
  exact sq_pointOf hW hS hD (fun _ => fun ff sets lim must nev cw cg cj cb cn sac sja size vc ac area pa g j ch ti li mk vp hd => hQ _ ⟨hW, ps, hl, hS, hP, hI, hC, hd, hL⟩) (fun c => absurd h1 c)
theorem sK_beatenBy {s : Nat → Nat} {n : Nat} {by_ : Nat → Int} {cc pp : Int} {d : DT} (h : IV s n by_ cc pp d) {p1 : Int32} {Q : Int32 → DT → Prop} (h1 : 0 ≤ p1.toInt ∧ p1.toInt < ((2 ^ s 0 : Nat) : Int)) (hQ : ∀ d2, IV s n by_ cc pp d2 → Q (iI (btn s p1.toInt.toNat)) d2) : wpK_X10_beatenBy p1 d Q := by
  obtain ⟨hW, ps, hl, hS, hP, hI, hC, hD, hL⟩ := h
  unfold wpK_X10_beatenBy
  exact sq_beatenBy hW hS hD (fun _ => fun ff sets lim must nev cw cg cj cb cn sac sja size vc ac area pa g j ch ti li mk vp hd => hQ _ ⟨hW, ps, hl, hS, hP, hI, hC, hd, hL⟩) (fun c => absurd h1 c)
theorem sK_beating {s : Nat → Nat} {n : Nat} {by_ : Nat → Int} {cc pp : Int} {d : DT} (h : IV s n by_ cc pp d) {p1 p2 : Int32} {Q : Int32 → DT → Prop} (hQ : ∀ d2, IV s n by_ cc pp d2 → Q (iI (btc s p1 p2 (PN (HH s)) : Nat)) d2) : wpK_X10_beating p1 p2 d Q := by
  obtain ⟨hW, ps, hl, hS, hP, hI, hC, hD, hL⟩ := h
  unfold wpK_X10_beating
  exact sq_beating hW hS hD (fun ff sets lim must nev cw cg cj cb cn sac sja size vc ac area pa g j ch ti li mk vp hd => hQ _ ⟨hW, ps, hl, hS, hP, hI, hC, hd, hL⟩)
theorem sK_joyFor {s : Nat → Nat} {n : Nat} {by_ : Nat → Int} {cc pp : Int} {d : DT} (h : IV s n by_ cc pp d) {p1 : Int32} {Q : Int32 → DT → Prop} (hQ : ∀ d2, IV s n by_ cc pp d2 → Q (iI (jfv s (ff (jfp s p1) (PN (HH s)) 0))) d2) : wpK_X10_joyFor p1 d Q := by
  obtain ⟨hW, ps, hl, hS, hP, hI, hC, hD, hL⟩ := h
  unfold wpK_X10_joyFor
  exact sq_joyFor hW hS hD (fun ff sets lim must nev cw cg cj cb cn sac sja size vc ac area pa g j ch ti li mk vp hd => hQ _ ⟨hW, ps, hl, hS, hP, hI, hC, hd, hL⟩)
theorem sK_gainFor {s : Nat → Nat} {n : Nat} {by_ : Nat → Int} {cc pp : Int} {d : DT} (h : IV s n by_ cc pp d) {p1 : Int32} {Q : Int32 → DT → Prop} (hQ : ∀ d2, IV s n by_ cc pp d2 → Q (iI (gfv s (fl (gfp s p1) (PN (HH s))))) d2) : wpK_X10_gainFor p1 d Q := by
  obtain ⟨hW, ps, hl, hS, hP, hI, hC, hD, hL⟩ := h
  unfold wpK_X10_gainFor
  exact sq_gainFor hW hS hD (fun ff sets lim must nev cw cg cj cb cn sac sja size vc ac area pa g j ch ti li mk vp hd => hQ _ ⟨hW, ps, hl, hS, hP, hI, hC, hd, hL⟩)
theorem sK_lightest {s : Nat → Nat} {n : Nat} {by_ : Nat → Int} {cc pp : Int} {d : DT} (h : IV s n by_ cc pp d) {p1 : Int32} {Q : Int32 → DT → Prop} (h1 : 0 ≤ p1.toInt ∧ p1.toInt < (PN (HH s) : Int)) (hQ : ∀ d2, IV s n by_ cc pp d2 → Q (iI (LIg s p1.toInt.toNat : Nat)) d2) : wpK_X10_lightest p1 d Q := by
  obtain ⟨hW, ps, hl, hS, hP, hI, hC, hD, hL⟩ := h
  unfold wpK_X10_lightest
  exact sq_lightest hW hS hD (fun _ => fun ff sets lim must nev cw cg cj cb cn sac sja size vc ac area pa g j ch ti li mk vp hd => hQ _ ⟨hW, ps, hl, hS, hP, hI, hC, hd, hL⟩) (fun c => absurd h1 c)
theorem sK_point {s : Nat → Nat} {n : Nat} {by_ : Nat → Int} {cc pp : Int} {d : DT} (h : IV s n by_ cc pp d) {p1 p2 : Int32} {Q : Int32 → DT → Prop} (h1 : 0 ≤ p1.toInt ∧ p1.toInt < (PN (HH s) : Int)) (h2 : 0 ≤ p2.toInt ∧ p2.toInt ≤ 6) (hQ : ∀ d2, IV s n by_ cc pp d2 → Q (iI (ptv s p1.toInt.toNat p2.toInt.toNat)) d2) : wpK_X10_point p1 p2 d Q := by
  obtain ⟨hW, ps, hl, hS, hP, hI, hC, hD, hL⟩ := h
  unfold wpK_X10_point
  exact sq_point hW hS hD (fun _ _ => fun ff sets lim must nev cw cg cj cb cn sac sja size vc ac area pa g j ch ti li mk vp hd => hQ _ ⟨hW, ps, hl, hS, hP, hI, hC, hd, hL⟩) (fun c => absurd h1 c) (fun _ c => absurd h2 c)
theorem sK_layerSize {s : Nat → Nat} {n : Nat} {by_ : Nat → Int} {cc pp : Int} {d : DT} (h : IV s n by_ cc pp d) {p1 : Int32} {Q : Int32 → DT → Prop} (h1 : 0 ≤ p1.toInt ∧ p1.toInt < (LC s : Int)) (hQ : ∀ d2, IV s n by_ cc pp d2 → Q (iI (lsz (HAS s) 4000000 p1.toInt.toNat : Nat)) d2) : wpK_X10_layerSize p1 d Q := by
  obtain ⟨hW, ps, hl, hS, hP, hI, hC, hD, hL⟩ := h
  unfold wpK_X10_layerSize
  exact sq_layerSize hW hS hD hL (fun _ => fun ff lf sets lim must nev cw cg cj cb cn sac sja size vc ac area pa g j ch ti li mk vp lc lfj lly lnj lfg lng ltj lzz hd he => hQ _ ⟨hW, ps, hl, hS, hP, hI, hC, hd, he⟩) (fun c => absurd h1 c)
theorem sK_layerOf {s : Nat → Nat} {n : Nat} {by_ : Nat → Int} {cc pp : Int} {d : DT} (h : IV s n by_ cc pp d) {p1 : Int32} {Q : Int32 → DT → Prop} (h1 : 0 ≤ p1.toInt ∧ p1.toInt < ((2 ^ s 0 : Nat) : Int)) (hQ : ∀ d2, IV s n by_ cc pp d2 → Q (if rf s (s 1) p1.toInt.toNat = 0 then iI (LYR (HAS s) (kyP s p1.toInt.toNat) : Nat) else -1) d2) : wpK_X10_layerOf p1 d Q := by
  obtain ⟨hW, ps, hl, hS, hP, hI, hC, hD, hL⟩ := h
  unfold wpK_X10_layerOf
  exact sq_layerOf hW hS hD hL (fun _ => fun ff lf sets lim must nev cw cg cj cb cn sac sja size vc ac area pa g j ch ti li mk vp lc lfj lly lnj lfg lng ltj lzz hd he => hQ _ ⟨hW, ps, hl, hS, hP, hI, hC, hd, he⟩) (fun c => absurd h1 c)
theorem sK_item {s : Nat → Nat} {n : Nat} {by_ : Nat → Int} {cc pp : Int} {d : DT} (h : IV s n by_ cc pp d) {p1 p2 : Int32} {Q : Int32 → DT → Prop} (h1 : 0 ≤ p1.toInt ∧ p1.toInt < s 0) (h2 : 0 ≤ p2.toInt ∧ p2.toInt ≤ 4) (hQ : Q (iI (s (6 + 5 * p1.toInt.toNat + p2.toInt.toNat) : Nat)) d) : wpK_X10_item p1 p2 d Q := by
  obtain ⟨hW, ps, hl, hS, hP, hI, hC, hD, hL⟩ := h
  unfold wpK_X10_item
  exact sq_item hW hS (fun _ _ => hQ) (fun c => absurd h1 c) (fun _ c => absurd h2 c)
theorem sK_property {s : Nat → Nat} {n : Nat} {by_ : Nat → Int} {cc pp : Int} {d : DT} (h : IV s n by_ cc pp d) {p1 : Int32} {Q : Int32 → DT → Prop} (h1 : 0 ≤ p1.toInt ∧ p1.toInt ≤ 7) (hQ : Q (prv7 s p1.toInt.toNat) d) : wpK_X10_property p1 d Q := by
  obtain ⟨hW, ps, hl, hS, hP, hI, hC, hD, hL⟩ := h
  unfold wpK_X10_property
  exact sq_property hW hS (fun _ => hQ) (fun c => absurd h1 c)
theorem sK_errorCode {s : Nat → Nat} {n : Nat} {by_ : Nat → Int} {cc pp : Int} {d : DT} (h : IV s n by_ cc pp d) {Q : Int32 → DT → Prop} (hQ : Q (iI cc) d) : wpK_X10_errorCode d Q := by
  obtain ⟨hW, ps, hl, hS, hP, hI, hC, hD, hL⟩ := h
  unfold wpK_X10_errorCode
  show Q (d.1 1) d
  rw [hC.1]
  exact hQ
theorem sK_errorPosition {s : Nat → Nat} {n : Nat} {by_ : Nat → Int} {cc pp : Int} {d : DT} (h : IV s n by_ cc pp d) {Q : Int32 → DT → Prop} (hQ : Q (iI pp) d) : wpK_X10_errorPosition d Q := by
  obtain ⟨hW, ps, hl, hS, hP, hI, hC, hD, hL⟩ := h
  unfold wpK_X10_errorPosition
  show Q (d.1 2) d
  rw [hC.2]
  exact hQ
theorem txP_leK {n m : Nat} {by_ : Nat → Int} {i : Nat → Int32} (h : txP n by_ i) (hm : m ≤ n) : txP m by_ i := ⟨Nat.le_trans hm h.1, h.2.1, fun p hp => h.2.2 p (Nat.lt_of_lt_of_le hp hm)⟩
theorem inP_leK {n m : Nat} {by_ : Nat → Int} {i : Nat → Int32} (h : inP n by_ i) (hm : m ≤ n) : inP m by_ i := ⟨txP_leK h.1 hm, h.2⟩
theorem sK_append {s : Nat → Nat} {n : Nat} {by_ : Nat → Int} {cc pp : Int} {d : DT} (h : IV s n by_ cc pp d) {p1 p2 p3 p4 p5 : Int32} {Q : Int32 → DT → Prop} (h1 : n ≤ 580) (hQ : ∀ d2, IV s (n + 20) (ap5 p1 p2 p3 p4 p5 n by_) cc pp d2 → Q (iI ((n + 20 : Nat) : Int)) d2) : wpK_X10_append p1 p2 p3 p4 p5 d Q := by
  obtain ⟨hW, ps, hl, hS, hP, hI, hC, hD, hL⟩ := h
  unfold wpK_X10_append
  rw [hI.1]
  exact sq_append hI.2 (fun _ i2 hi => hQ _ ⟨hW, ps, hl, hS, hP, ⟨rfl, hi⟩, hC, hD, hL⟩) (fun c => absurd h1 c)
theorem sK_truncate {s : Nat → Nat} {n : Nat} {by_ : Nat → Int} {cc pp : Int} {d : DT} (h : IV s n by_ cc pp d) {p1 : Int32} {Q : DT → Prop} (h1 : 0 ≤ p1.toInt ∧ p1.toInt ≤ n) (hQ : ∀ d2, IV s p1.toInt.toNat by_ cc pp d2 → Q d2) : wpK_X10_truncate p1 d Q := by
  obtain ⟨hW, ps, hl, hS, hP, hI, hC, hD, hL⟩ := h
  unfold wpK_X10_truncate
  rw [hI.1]
  exact sq_truncate hI.2.1.1 (fun _ => hQ _ ⟨hW, ps, hl, hS, hP, ⟨rfl, inP_leK hI.2 (by omega)⟩, hC, hD, hL⟩) (fun c => absurd h1 c)
theorem pshK_le {ps : List (Nat → Nat)} {s : Nat → Nat} (h : ps.length ≤ 8) : (pshL ps s).length ≤ 8 := by
  unfold pshL
  split <;> simp <;> omega
theorem sK_load {s : Nat → Nat} {n : Nat} {by_ : Nat → Int} {cc pp : Int} {d : DT} (h : IV s n by_ cc pp d) {Q : Int32 → DT → Prop} {s2 : Nat → Nat} (hw2 : WF s2) (ht : pzT n by_ = .ok s2) (hQ : ∀ d2, IV s2 0 by_ 0 (-1) d2 → Q (iI (s2 0 : Nat)) d2) : wpK_X10_load d Q := by
  obtain ⟨hW, ps, hl, hS, hP, hI, hC, hD, hL⟩ := h
  unfold wpK_X10_load
  rw [hI.1]
  refine sq_load hW hl hI.2.2 hI.2.1 hP hS (fun s3 hw3 e pc pp_ pl pk pst pnx pv ptx di dc dl dm dn dh dw dg dj db dd count items cap lim mus nev hand w g j b nd pq pi pr hp hs => ?_) (fun c p e => by rw [ht] at e; exact absurd e (by simp))
  rw [ht] at e
  obtain rfl : s2 = s3 := by injection e
  refine hQ _ ⟨hw3, pshL ps s, pshK_le hl, hs, hp, ⟨rfl, inP_leK hI.2 (Nat.zero_le _)⟩, ⟨rfl, iI_m1⟩, ⟨hD.1, Or.inl rfl⟩, Or.inl rfl⟩
theorem sK_setCapacity {s : Nat → Nat} {n : Nat} {by_ : Nat → Int} {cc pp : Int} {d : DT} (h : IV s n by_ cc pp d) {p1 : Int32} {Q : Int32 → DT → Prop} (h1 : 0 ≤ p1.toInt ∧ p1.toInt ≤ 999) (hQ : ∀ d2, IV (su s 1 p1.toInt.toNat) n by_ cc pp d2 → Q (iI (s 1 : Nat)) d2) : wpK_X10_setCapacity p1 d Q := by
  obtain ⟨hW, ps, hl, hS, hP, hI, hC, hD, hL⟩ := h
  unfold wpK_X10_setCapacity
  refine sq_setCapacity hW hl hP hS (fun _ count pq pi pr hp => hQ _ ⟨WF_c hW (Or.inl ⟨rfl, by omega⟩), pshL ps s, pshK_le hl, ?_, hp, hI, hC, ⟨hD.1, Or.inl rfl⟩, Or.inl rfl⟩) (fun c => absurd h1 c)
  obtain ⟨a0, a1, a2, a3, a4, a5, a6⟩ := hS
  refine ⟨a0, ?_, a2, a3, a4, a5, fun k hk => ?_⟩
  · show p1 = iI ((su s 1 p1.toInt.toNat 1 : Nat) : Int)
    rw [su_eq, Int.toNat_of_nonneg h1.1]
    exact iI_of p1
  · have := a6 k (by rw [su_ne (by omega)] at hk; exact hk)
    rw [su_ne (by omega), su_ne (by omega), su_ne (by omega), su_ne (by omega), su_ne (by omega)]
    exact this
