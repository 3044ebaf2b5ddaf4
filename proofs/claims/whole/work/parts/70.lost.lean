/-! WHAT A DESK LOSES WITHOUT AN ITEM -/
theorem and_bit0 (x k : Nat) : x &&& 2 ^ k = 0 ↔ x.testBit k = false := by
  constructor
  · intro h
    have := congrArg (fun z => z.testBit k) h
    simp only [Nat.testBit_and, Nat.testBit_two_pow, Nat.zero_testBit, decide_true, Bool.and_true] at this
    exact this
  · intro h
    refine Nat.eq_of_testBit_eq fun i => ?_
    rw [Nat.testBit_and, Nat.testBit_two_pow, Nat.zero_testBit]
    by_cases e : k = i
    · subst e; rw [h]; rfl
    · rw [decide_eq_false e, Bool.and_false]
/-- set q reaches point n without item k -/
def LW (s : Nat → Nat) (k n q : Nat) : Bool := decide (rf s (s 1) q = 0) && (!q.testBit k && decide (PB s (HH s) q = (n : Int)))
/-- one of the sets below m does -/
def LR (s : Nat → Nat) (k m n : Nat) : Bool := anyb (LW s k n) m
def lostv (s : Nat → Nat) (k : Nat) : Int := (PN (HH s) : Int) - fb_ct (LR s k (2 ^ s 0)) (PN (HH s))
theorem LR_no {s : Nat → Nat} {k x n : Nat} (h : LW s k n x = true → LR s k x n = true) : LR s k (x + 1) n = LR s k x n := by
  by_cases c : LW s k n x = true
  · rw [h c]; exact anyb_t c
  · exact anyb_e (by simpa using c)
theorem LW_pt {s : Nat → Nat} {k x n b : Nat} (h : PB s (HH s) x = (b : Int)) (hw : LW s k n x = true) : n = b := by
  simp only [LW, Bool.and_eq_true, decide_eq_true_eq] at hw
  have := hw.2.2
  omega
theorem LR_yes {s : Nat → Nat} {k x b : Nat} (h1 : rf s (s 1) x = 0) (h2 : x.testBit k = false) (h3 : PB s (HH s) x = (b : Int)) (n : Nat) : LR s k (x + 1) n = if n = b then true else LR s k x n := by
  by_cases c : n = b
  · rw [if_pos c]
    refine anyb_t ?_
    simp only [LW, h1, h2, h3, c]
    rfl
  · rw [if_neg c]
    exact LR_no fun z => absurd (LW_pt h3 z) c
/-- the row of marks -/
abbrev rcP (s : Nat → Nat) (k m : Nat) (r : Nat → Int32) : Prop := ∀ n, n < PN (HH s) → r n = if LR s k m n = true then 1 else 0
theorem rcP_no {s : Nat → Nat} {k x : Nat} {r : Nat → Int32} (hr : rcP s k x r) (h : ∀ n, n < PN (HH s) → LW s k n x = true → LR s k x n = true) : rcP s k (x + 1) r := fun n hn => by rw [LR_no (h n hn)]; exact hr n hn
theorem ct_no {s : Nat → Nat} {k x : Nat} (h : ∀ n, n < PN (HH s) → LW s k n x = true → LR s k x n = true) : fb_ct (LR s k (x + 1)) (PN (HH s)) = fb_ct (LR s k x) (PN (HH s)) := fb_ct_cong fun n hn => LR_no (h n hn)
theorem rcP_yes {s : Nat → Nat} {k x b : Nat} {r : Nat → Int32} (hr : rcP s k x r) (h1 : rf s (s 1) x = 0) (h2 : x.testBit k = false) (h3 : PB s (HH s) x = (b : Int)) {v : Int32} (hv : v = 1) : rcP s k (x + 1) (upd r b v) := fun n hn => by
  rw [LR_yes h1 h2 h3]
  by_cases c : n = b
  · rw [if_pos c, c, pk_us, hv]; rfl
  · rw [if_neg c, pk_un c]; exact hr n hn
theorem ct_yes {s : Nat → Nat} {k x b : Nat} (h1 : rf s (s 1) x = 0) (h2 : x.testBit k = false) (h3 : PB s (HH s) x = (b : Int)) (hb : b < PN (HH s)) (h0 : ¬ LR s k x b = true) : fb_ct (LR s k (x + 1)) (PN (HH s)) = fb_ct (LR s k x) (PN (HH s)) + 1 := by
  have e : LR s k (x + 1) = fun n => if n = b then true else LR s k x n := funext fun n => LR_yes h1 h2 h3 n
  have := fb_ct_upd (LR s k x) true hb
  rw [if_neg h0, if_pos rfl] at this
  rw [e]
  omega
theorem LW_ne {s : Nat → Nat} {k x : Nat} (h : ¬ (rf s (s 1) x = 0 ∧ x.testBit k = false)) (n : Nat) : ¬ LW s k n x = true := by
  simp only [LW, Bool.and_eq_true, decide_eq_true_eq, Bool.not_eq_true']
  exact fun z => h ⟨z.1, z.2.1⟩
theorem LW_nb {s : Nat → Nat} {k x : Nat} (h : PB s (HH s) x = -1) (n : Nat) : ¬ LW s k n x = true := by
  simp only [LW, Bool.and_eq_true, decide_eq_true_eq, Bool.not_eq_true']
  exact fun z => by have := z.2.2; omega
theorem LR_0 (s : Nat → Nat) (k : Nat) : fb_ct (LR s k 0) (PN (HH s)) = 0 := fb_ct_zero.mpr fun _ _ => rfl
theorem sl_reach32 {s : Nat → Nat} (hW : WF s) {k : Nat} (hk : k < s 0) {t_size : Int32} {t1_sets : Int32} {t1_limit : Int32} {t1_mustSet : Int32} {t1_neverSet : Int32} {t1_gain : Nat → Int32} {t1_joy : Nat → Int32} {t_pointAt : Nat → Int32} {t_joy : Nat → Int32} {t1_weight : Nat → Int32} {t1_barred : Nat → Int32} {t1_needed : Nat → Int32} {x2 : Int32} {x3 : Int32} {Q : Int32 → (Nat → Int32) → Prop} (h2 : x2 = iI (s 1 : Nat)) (h3 : x3 = iI ((2 ^ k : Nat) : Int)) (hP : chP s t1_sets t1_limit t1_mustSet t1_neverSet t1_weight t1_gain t1_joy t1_barred t1_needed) (hpa : ptA (HH s) t_pointAt) (hj : ∀ n, n < PN (HH s) → t_joy n = iI (PJ (HH s) n)) (hQ : ∀ r, Q (iI (fb_ct (LR s k (2 ^ s 0)) (PN (HH s)) : Nat)) r) : ∀ (d x : Nat) (r : Nat → Int32), x + d = 2 ^ s 0 → rcP s k x r → wp_X2_countReached_L32 t_size t1_sets t1_limit t1_mustSet t1_neverSet t1_gain t1_joy t_pointAt t_joy t1_weight t1_barred t1_needed x2 x3 Q (d + 1) (iI (fb_ct (LR s k x) (PN (HH s)) : Nat)) (iI (x : Nat)) r := by
  have hp := wf_pow hW
  have hp0 := Nat.two_pow_pos (s 0)
  have hN := PN_le (HH s)
  have h12 := hW.1
  have hs := HH_stP hW
  subst h2
  subst h3
  have p1 := hP.1
  have p6 := hP.2.2.2.2.2.1
  have p7 := hP.2.2.2.2.2.2.1
  intro d
  induction d with
  | zero =>
    intro x r hx hr
    unfold wp_X2_countReached_L32
    obtain rfl : x = 2 ^ s 0 := by omega
    rw [p1, iI_le (by omega) (by omega) (by omega) (by omega), ← p1]
    exact ⟨fun _ => hQ r, fun c => absurd (Int.le_refl _) c⟩
  | succ d ih =>
    intro x r hx hr
    have e0 : t1_sets ≤ iI (x : Nat) ↔ ((2 ^ s 0 : Nat) : Int) ≤ (x : Int) := by rw [p1, iI_le (by omega) (by omega) (by omega) (by omega)]
    have e1 : (4096 : Int32) ≤ iI (x : Nat) ↔ ((4096 : Nat) : Int) ≤ (x : Int) := by rw [iI_lit 4096, iI_le (by omega) (by omega) (by omega) (by omega)]
    have hi : vp_in (iI (x : Nat)) 4096 := in_lit (by omega) (by omega)
    have hgb : sm s 1 x (s 0) ≤ 1188 := sm_bd hW (by omega) x
    have hj2 : sm s 2 x (s 0) ≤ 1188 := sm_bd hW (by omega) x
    have hr2 := rf_le s (s 1) x
    have hlt : (2 : Nat) ^ k < 4096 := Nat.lt_of_lt_of_le (show 2 ^ k < 2 ^ s 0 from Nat.pow_lt_pow_right (by omega) hk) hp
    have eb : iI (x : Nat) &&& iI ((2 ^ k : Nat) : Int) = 0 ↔ x.testBit k = false := by
      rw [iI_and, iI_lit 0, iI_inj4 (Nat.lt_of_le_of_lt Nat.and_le_left (by omega)) (by omega), and_bit0]
    have no : (∀ n, n < PN (HH s) → LW s k n x = true → LR s k x n = true) → wp_X2_countReached_L32 t_size t1_sets t1_limit t1_mustSet t1_neverSet t1_gain t1_joy t_pointAt t_joy t1_weight t1_barred t1_needed (iI (s 1:Nat)) (iI ((2^k:Nat):Int)) Q (d + 1) (iI (fb_ct (LR s k x) (PN (HH s)) : Nat)) (iI ((x + 1 : Nat) : Int)) r := fun z => by
      have := ih (x + 1) r (by omega) (rcP_no hr z)
      rw [ct_no z] at this
      exact this
    unfold wp_X2_countReached_L32
    rw [e0, e1, eb, iI_clN (by omega), p6 x (by omega), p7 x (by omega), iI_succ]
    refine ⟨fun c => absurd c (by omega), fun _ => ⟨fun c => absurd c (by omega), fun _ => ⟨hi, hi, sp_pointWithPair hs hpa hj hgb (by omega) (by omega) ?_⟩⟩⟩
    refine ⟨fun c => no fun n _ z => absurd z (LW_ne (fun y => c y.2) n), fun c => ?_⟩
    rcases PB_rng hW hs x with b | ⟨n, hn, b⟩
    · rw [show (if (HH s) (sm s 1 x (s 0)) = (sm s 2 x (s 0) : Int) then (PI (HH s) (sm s 1 x (s 0)) : Int) else -1) = -1 from b]
      exact ⟨fun _ => no fun n _ z => absurd z (LW_nb b n), fun z => absurd iI_m1.symm z⟩
    · rw [show (if (HH s) (sm s 1 x (s 0)) = (sm s 2 x (s 0) : Int) then (PI (HH s) (sm s 1 x (s 0)) : Int) else -1) = (n : Int) from b]
      rw [iI_m1, iI_eq (by omega) (by omega) (by omega) (by omega), iI_clN (z := n) (by omega), hr n hn]
      refine ⟨fun z => absurd z (by omega), fun _ => ⟨in_lit (by omega) (by omega), fun c1 => ?_, fun c1 => ?_⟩⟩
      · have c2 : LR s k x n = true := by
          by_cases y : LR s k x n = true
          · exact y
          · rw [if_neg y] at c1; exact absurd rfl c1
        exact no fun n2 _ z => by rw [LW_pt b z]; exact c2
      · have c2 : ¬ LR s k x n = true := fun y => by rw [if_pos y] at c1; exact absurd c1 (by decide)
        refine sp_reason hW hW.2.1 (by omega) hP ?_
        rw [iI_z (by omega)]
        refine ⟨fun c3 => no fun n2 _ z => absurd z (LW_ne (fun y => c3 y.1) n2), fun c3 => ⟨in_lit (by omega) (by omega), ?_⟩⟩
        have := ih (x + 1) (upd r n (vp_nar .boolean 1)) (by omega) (rcP_yes hr c3 c b (by decide))
        rw [ct_yes c3 c b hn c2] at this
        rw [iI_succ]
        exact this
theorem sl_reach3 {t_size : Int32} {t1_sets : Int32} {t1_limit : Int32} {t1_mustSet : Int32} {t1_neverSet : Int32} {t1_gain : Nat → Int32} {t1_joy : Nat → Int32} {t_pointAt : Nat → Int32} {t_joy : Nat → Int32} {t1_weight : Nat → Int32} {t1_barred : Nat → Int32} {t1_needed : Nat → Int32} {x2 : Int32} {x3 : Int32} {k26 : (Nat → Int32) → Prop} {Q : Int32 → (Nat → Int32) → Prop} {N : Nat} (hN : N ≤ 1189) (hsz : t_size = iI (N : Nat)) (hk : ∀ r, (∀ n, n < N → r n = 0) → k26 r) : ∀ (d x : Nat) (r : Nat → Int32), x + d = N → (∀ n, n < x → r n = 0) → wp_X2_countReached_L3 t_size t1_sets t1_limit t1_mustSet t1_neverSet t1_gain t1_joy t_pointAt t_joy t1_weight t1_barred t1_needed x2 x3 k26 Q (d + 1) (iI (x : Nat)) r := by
  intro d
  induction d with
  | zero =>
    intro x r hx hr
    unfold wp_X2_countReached_L3
    obtain rfl : x = N := by omega
    rw [hsz]
    exact ⟨fun _ => hk r hr, fun c => absurd (Int32.le_refl _) c⟩
  | succ d ih =>
    intro x r hx hr
    unfold wp_X2_countReached_L3
    have e0 : t_size ≤ iI (x : Nat) ↔ (N : Int) ≤ (x : Int) := by rw [hsz, iI_le (by omega) (by omega) (by omega) (by omega)]
    rw [e0, iI_clN (by omega), iI_succ]
    refine ⟨fun c => absurd c (by omega), fun _ => ⟨in_lit (by omega) (by omega), ih (x + 1) _ (by omega) fun n hn => ?_⟩⟩
    by_cases c : n = x
    · rw [c, pk_us]; decide
    · rw [pk_un c]; exact hr n (by omega)
theorem sp_countReached {s : Nat → Nat} (hW : WF s) {k : Nat} (hk : k < s 0) {p2 : Int32} {p3 : Int32} {t_size : Int32} {t_reached : Nat → Int32} {t1_sets : Int32} {t1_limit : Int32} {t1_mustSet : Int32} {t1_neverSet : Int32} {t1_gain : Nat → Int32} {t1_joy : Nat → Int32} {t_pointAt : Nat → Int32} {t_joy : Nat → Int32} {t1_weight : Nat → Int32} {t1_barred : Nat → Int32} {t1_needed : Nat → Int32} {Q : Int32 → (Nat → Int32) → Prop} (h2 : p2 = iI (s 1 : Nat)) (h3 : p3 = iI ((2 ^ k : Nat) : Int)) (hP : chP s t1_sets t1_limit t1_mustSet t1_neverSet t1_weight t1_gain t1_joy t1_barred t1_needed) (hsz : t_size = iI (PN (HH s) : Nat)) (hpa : ptA (HH s) t_pointAt) (hj : ∀ n, n < PN (HH s) → t_joy n = iI (PJ (HH s) n)) (hQ : ∀ r, Q (iI (fb_ct (LR s k (2 ^ s 0)) (PN (HH s)) : Nat)) r) : wp_X2_countReached p2 p3 t_size t_reached t1_sets t1_limit t1_mustSet t1_neverSet t1_gain t1_joy t_pointAt t_joy t1_weight t1_barred t1_needed Q := by
  have hN := PN_le (HH s)
  unfold wp_X2_countReached
  refine ⟨PN (HH s) + 1, ?_⟩
  rw [show (0 : Int32) = iI ((0 : Nat) : Int) from iI_lit 0]
  refine sl_reach3 hN hsz (fun r hr => ⟨2 ^ s 0 + 1, ?_⟩) (PN (HH s)) 0 _ (by omega) (fun n hn => absurd hn (by omega))
  have := sl_reach32 (t_size := t_size) hW hk h2 h3 hP hpa hj hQ (2 ^ s 0) 0 r (by omega) (fun n hn => by rw [hr n hn]; rfl)
  rw [LR_0] at this
  exact this
theorem sq_lostWithout {s : Nat → Nat} (hW : WF s) {hand : Int32} {p1 : Int32} {t_frontierFresh : Int32} {t_now_items : Int32} {t_now_capacity : Int32} {t_now_limit : Int32} {t_now_mustSet : Int32} {t_now_neverSet : Int32} {t_choices_sets : Int32} {t_choices_limit : Int32} {t_choices_mustSet : Int32} {t_choices_neverSet : Int32} {t_choices_weight : Nat → Int32} {t_now_weight : Nat → Int32} {t_choices_gain : Nat → Int32} {t_now_gain : Nat → Int32} {t_choices_joy : Nat → Int32} {t_now_joy : Nat → Int32} {t_choices_barred : Nat → Int32} {t_now_bars : Nat → Int32} {t_choices_needed : Nat → Int32} {t_now_needs : Nat → Int32} {t_stairs_allowedCount : Int32} {t_stairs_joyAt : Nat → Int32} {t_frontier_size : Int32} {t_frontier_vertexCount : Int32} {t_frontier_allowedCount : Int32} {t_frontier_areaBelow : Int32} {t_frontier_pointAt : Nat → Int32} {t_frontier_gain : Nat → Int32} {t_frontier_joy : Nat → Int32} {t_frontier_choice : Nat → Int32} {t_frontier_times : Nat → Int32} {t_frontier_light : Nat → Int32} {t_frontier_mark : Nat → Int32} {t_frontier_vertexPoint : Nat → Int32} {t_frontier_reached : Nat → Int32} {Q : Int32 → Int32 → Int32 → Int32 → Int32 → Int32 → (Nat → Int32) → (Nat → Int32) → (Nat → Int32) → (Nat → Int32) → (Nat → Int32) → Int32 → (Nat → Int32) → Int32 → Int32 → Int32 → Int32 → (Nat → Int32) → (Nat → Int32) → (Nat → Int32) → (Nat → Int32) → (Nat → Int32) → (Nat → Int32) → (Nat → Int32) → (Nat → Int32) → (Nat → Int32) → Prop} {QX : String → Int32 → Int32 → Int32 → Int32 → Int32 → (Nat → Int32) → (Nat → Int32) → (Nat → Int32) → (Nat → Int32) → (Nat → Int32) → Int32 → (Nat → Int32) → Int32 → Int32 → Int32 → Int32 → (Nat → Int32) → (Nat → Int32) → (Nat → Int32) → (Nat → Int32) → (Nat → Int32) → (Nat → Int32) → (Nat → Int32) → (Nat → Int32) → (Nat → Int32) → Prop} (hS : suP s t_now_items t_now_capacity t_now_limit t_now_mustSet t_now_neverSet hand t_now_weight t_now_gain t_now_joy t_now_bars t_now_needs) (hD : dkP s t_frontierFresh t_choices_sets t_choices_limit t_choices_mustSet t_choices_neverSet t_choices_weight t_choices_gain t_choices_joy t_choices_barred t_choices_needed t_frontier_size t_frontier_vertexCount t_frontier_allowedCount t_frontier_areaBelow t_frontier_pointAt t_frontier_gain t_frontier_joy t_frontier_choice t_frontier_times t_frontier_light t_frontier_mark t_frontier_vertexPoint) (hQ : 0 ≤ p1.toInt ∧ p1.toInt < s 0 → DQ s (fun ff sets lim must nev cw cg cj cb cn sac sja size vc ac area pa g j ch ti li mk vp => ∀ rc, Q (iI (lostv s p1.toInt.toNat)) ff sets lim must nev cw cg cj cb cn sac sja size vc ac area pa g j ch ti li mk vp rc)) (hX : ¬ (0 ≤ p1.toInt ∧ p1.toInt < s 0) → DQ s (fun ff sets lim must nev cw cg cj cb cn sac sja size vc ac area pa g j ch ti li mk vp => ∀ rc, QX "java/lang/IndexOutOfBoundsException" ff sets lim must nev cw cg cj cb cn sac sja size vc ac area pa g j ch ti li mk vp rc)) : wp_X10_lostWithout p1 t_frontierFresh t_now_items t_now_capacity t_now_limit t_now_mustSet t_now_neverSet t_choices_sets t_choices_limit t_choices_mustSet t_choices_neverSet t_choices_weight t_now_weight t_choices_gain t_now_gain t_choices_joy t_now_joy t_choices_barred t_now_bars t_choices_needed t_now_needs t_stairs_allowedCount t_stairs_joyAt t_frontier_size t_frontier_vertexCount t_frontier_allowedCount t_frontier_areaBelow t_frontier_pointAt t_frontier_gain t_frontier_joy t_frontier_choice t_frontier_times t_frontier_light t_frontier_mark t_frontier_vertexPoint t_frontier_reached Q QX := by
  have h12 := hW.1
  unfold wp_X10_lostWithout
  refine sp_reqItem hW hS.1 (fun h => sp_refresh hW hS hD fun sets lim must nev cw cg cj cb cn sac sja size vc ac area pa g j ch ti li mk vp hP hF => ?_) (fun h => hX h _ _ _ _ _ _ _ _ _ _ _ _ _ _ _ _ _ _ _ _ _ _ _ _ hD _)
  have hd := dkP_1 hP hF
  obtain ⟨k, hk⟩ : ∃ k : Nat, p1.toInt = k := ⟨p1.toInt.toNat, by omega⟩
  have ep : p1 = iI (k : Nat) := by rw [iI_of p1, hk]
  have ans := hQ h 1 sets lim must nev cw cg cj cb cn sac sja size vc ac area pa g j ch ti li mk vp hd
  rw [hk, Int.toNat_natCast] at ans
  refine sp_countReached hW (k := k) (by omega) hS.2.1 (by rw [ep, iI_shl1 k (by omega)]) hP hF.1 hF.2.2.2.1 hF.2.2.2.2.1.2 fun r => ?_
  rw [hF.1, iI_sub, ← hF.1]
  exact ans r
theorem sl_lostR20 {s : Nat → Nat} (hW : WF s) {k : Nat} (hk : k < s 0) {t_row : Nat → Int32} {x1 : Int32} {t_thrown : Int32} {t_allowedMany : Int32} {t_pointMany : Int32} {t_joyAt : Nat → Int32} {t_pointAt : Nat → Int32} {t_pointGain : Nat → Int32} {t_pointJoy : Nat → Int32} {k81 : (Nat → Int32) → Prop} {Q : Int32 → Int32 → Int32 → Int32 → (Nat → Int32) → (Nat → Int32) → (Nat → Int32) → (Nat → Int32) → (Nat → Int32) → Prop} (hN : neP s t_row) (hx : x1 = iI (k : Nat)) (hpa : ptA (HH s) t_pointAt) (hj : ∀ n, n < PN (HH s) → t_pointJoy n = iI (PJ (HH s) n)) (hQ : ∀ r, rcP s k (2 ^ s 0) r → k81 r) : ∀ (d x : Nat) (r : Nat → Int32), x + d = 2 ^ s 0 → rcP s k x r → wp_X11_lostWithout_L20 t_row x1 t_thrown t_allowedMany t_pointMany t_joyAt t_pointAt t_pointGain t_pointJoy k81 Q (d + 1) (iI (x : Nat)) r := by
  have hp := wf_pow hW
  have hp0 := Nat.two_pow_pos (s 0)
  have hN2 := PN_le (HH s)
  have h12 := hW.1
  have hs := HH_stP hW
  subst hx
  intro d
  induction d with
  | zero =>
    intro x r hx hr
    unfold wp_X11_lostWithout_L20
    obtain rfl : x = 2 ^ s 0 := by omega
    exact sp_allSets hW hN ⟨fun _ => hQ r hr, fun c => absurd (Int32.le_refl _) c⟩
  | succ d ih =>
    intro x r hx hr
    have no : (∀ n, n < PN (HH s) → LW s k n x = true → LR s k x n = true) → wp_X11_lostWithout_L20 t_row (iI (k:Nat)) t_thrown t_allowedMany t_pointMany t_joyAt t_pointAt t_pointGain t_pointJoy k81 Q (d + 1) (iI ((x + 1 : Nat) : Int)) r := fun z => ih (x + 1) r (by omega) (rcP_no hr z)
    have hr2 := rf_le s (s 1) x
    unfold wp_X11_lostWithout_L20
    refine sp_allSets hW hN ?_
    rw [iI_le (by omega) (by omega) (by omega) (by omega), iI_succ]
    refine ⟨fun c => absurd c (by omega), fun _ => sp_has (by omega) (by omega) ?_⟩
    by_cases c : x.testBit k = true
    · rw [if_pos c]
      exact ⟨fun z => absurd z (by decide), fun _ => no fun n _ z => absurd z (LW_ne (fun y => by rw [c] at y; exact absurd y.2 (by decide)) n)⟩
    · rw [if_neg c]
      have c0 : x.testBit k = false := by simpa using c
      refine ⟨fun _ => sp_pointBy hW hN hs hpa hj (by omega) ?_, fun z => absurd rfl z⟩
      rcases PB_rng hW hs x with b | ⟨n, hn, b⟩
      · rw [b]
        exact ⟨fun _ => no fun n _ z => absurd z (LW_nb b n), fun z => absurd iI_m1.symm z⟩
      · rw [b, iI_m1, iI_eq (by omega) (by omega) (by omega) (by omega), iI_clN (z := n) (by omega), hr n hn]
        refine ⟨fun z => absurd z (by omega), fun _ => ⟨in_lit (by omega) (by omega), fun c1 => ?_, fun c1 => sp_isAllowed hW hN (by omega) ?_⟩⟩
        · have c2 : LR s k x n = true := by
            by_cases y : LR s k x n = true
            · exact y
            · rw [if_neg y] at c1; exact absurd rfl c1
          exact no fun n2 _ z => by rw [LW_pt b z]; exact c2
        · have c2 : ¬ LR s k x n = true := fun y => by rw [if_pos y] at c1; exact absurd c1 (by decide)
          by_cases c3 : rf s (s 1) x = 0
          · rw [if_pos c3]
            exact ⟨fun z => absurd z (by decide), fun _ => ⟨in_lit (by omega) (by omega), ih (x + 1) _ (by omega) (rcP_yes hr c3 c0 b rfl)⟩⟩
          · rw [if_neg c3]
            exact ⟨fun _ => no fun n2 _ z => absurd z (LW_ne (fun y => c3 y.1) n2), fun z => absurd rfl z⟩
theorem sl_lostR85 {s : Nat → Nat} {k m : Nat} {t_row : Nat → Int32} {t_thrown : Int32} {t_allowedMany : Int32} {t_pointMany : Int32} {t_joyAt : Nat → Int32} {t_pointAt : Nat → Int32} {t_pointGain : Nat → Int32} {t_pointJoy : Nat → Int32} {t_pointTimes : Nat → Int32} {Q : Int32 → Int32 → Int32 → Int32 → (Nat → Int32) → (Nat → Int32) → (Nat → Int32) → (Nat → Int32) → (Nat → Int32) → Prop} (hpm : t_pointMany = iI (PN (HH s) : Nat)) (hr : rcP s k m t_pointTimes) (hQ : Q (iI ((PN (HH s) : Int) - fb_ct (LR s k m) (PN (HH s)))) t_thrown t_allowedMany t_pointMany t_joyAt t_pointAt t_pointGain t_pointJoy t_pointTimes) : ∀ (d x : Nat), x + d = PN (HH s) → wp_X11_lostWithout_L85 t_row t_thrown t_allowedMany t_pointMany t_joyAt t_pointAt t_pointGain t_pointJoy t_pointTimes Q (d + 1) (iI ((x : Int) - fb_ct (LR s k m) x)) (iI (x : Nat)) := by
  have hN2 := PN_le (HH s)
  intro d
  induction d with
  | zero =>
    intro x hx
    unfold wp_X11_lostWithout_L85
    obtain rfl : x = PN (HH s) := by omega
    exact ⟨fun _ => hQ, fun z => absurd (by rw [hpm]; exact Int32.le_refl _) z⟩
  | succ d ih =>
    intro x hx
    have nx := ih (x + 1) (by omega)
    unfold wp_X11_lostWithout_L85
    have e0 : t_pointMany ≤ iI (x : Nat) ↔ (PN (HH s) : Int) ≤ (x : Int) := by rw [hpm, iI_le (by omega) (by omega) (by omega) (by omega)]
    rw [e0, iI_clN (by omega), hr x (by omega), iI_succ]
    refine ⟨fun z => absurd z (by omega), fun _ => ⟨in_lit (by omega) (by omega), fun c => ?_, fun c => ?_⟩⟩
    · have c2 : LR s k m x = true := by
        by_cases y : LR s k m x = true
        · exact y
        · rw [if_neg y] at c; exact absurd rfl c
      intro v hv
      rw [iI_lit 0, iI_add] at hv
      subst hv
      rw [fa_ct_yes' c2] at nx
      rw [show (x : Int) - (fb_ct (LR s k m) x : Nat) + (0 : Nat) = ((x + 1 : Nat) : Int) - ((fb_ct (LR s k m) x + 1 : Nat) : Int) by omega]
      exact nx
    · have c2 : LR s k m x = false := by
        by_cases y : LR s k m x = true
        · rw [if_pos y] at c; exact absurd c (by decide)
        · simpa using y
      intro v hv
      rw [iI_lit 1, iI_add] at hv
      subst hv
      rw [fa_ct_no' c2] at nx
      rw [show (x : Int) - (fb_ct (LR s k m) x : Nat) + (1 : Nat) = ((x + 1 : Nat) : Int) - (fb_ct (LR s k m) x : Nat) by omega]
      exact nx
theorem sr_lostWithout {s : Nat → Nat} (hW : WF s) {p1 : Int32} {t_thrown : Int32} {t_allowedMany : Int32} {t_pointMany : Int32} {t_row : Nat → Int32} {t_joyAt : Nat → Int32} {t_pointAt : Nat → Int32} {t_pointGain : Nat → Int32} {t_pointJoy : Nat → Int32} {t_pointTimes : Nat → Int32} {Q : Int32 → Int32 → Int32 → Int32 → (Nat → Int32) → (Nat → Int32) → (Nat → Int32) → (Nat → Int32) → (Nat → Int32) → Prop} (hN : neP s t_row) (hQ : ∀ am pm ja pa g j ti, Q (if 0 ≤ p1.toInt ∧ p1.toInt < s 0 then iI (lostv s p1.toInt.toNat) else 0) (if 0 ≤ p1.toInt ∧ p1.toInt < s 0 then 0 else 1) am pm ja pa g j ti) : wp_X11_lostWithout p1 t_thrown t_allowedMany t_pointMany t_row t_joyAt t_pointAt t_pointGain t_pointJoy t_pointTimes Q := by
  have h12 := hW.1
  unfold wp_X11_lostWithout
  refine sp_isItem hW hN (sp_passes ?_)
  by_cases h : 0 ≤ p1.toInt ∧ p1.toInt < s 0
  · rw [if_pos h]
    simp only [if_pos h] at hQ
    obtain ⟨k, hk⟩ : ∃ k : Nat, p1.toInt = k := ⟨p1.toInt.toNat, by omega⟩
    have ep : p1 = iI (k : Nat) := by rw [iI_of p1, hk]
    rw [hk, Int.toNat_natCast] at hQ
    refine ⟨fun _ => sp_layP hW hN fun am pm ja pa g j ti hM hT => ⟨2 ^ s 0 + 1, ?_⟩, fun z => absurd z (by decide)⟩
    rw [show (0 : Int32) = iI ((0 : Nat) : Int) from iI_lit 0]
    refine sl_lostR20 hW (k := k) (by omega) hN ep hM.2.2.2.1 hM.2.2.2.2.2 (fun r hr => ⟨PN (HH s) + 1, ?_⟩) (2 ^ s 0) 0 ti (by omega) (fun n hn => by rw [hT n hn]; rfl)
    have := sl_lostR85 (k := k) (m := 2 ^ s 0) (Q := Q) (t_row := t_row) (t_thrown := iI ((0 : Nat) : Int)) (t_allowedMany := am) (t_joyAt := ja) (t_pointAt := pa) (t_pointGain := g) (t_pointJoy := j) hM.2.1 hr (by rw [← iI_lit 0]; exact hQ _ _ _ _ _ _ _) (PN (HH s)) 0 (Nat.zero_add _)
    exact this
  · rw [if_neg h]
    simp only [if_neg h] at hQ
    exact ⟨fun z => absurd rfl z, fun _ => hQ _ _ _ _ _ _ _⟩
