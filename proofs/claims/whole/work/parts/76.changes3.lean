/-! CHANGES of items: the reference's -/
/-- the first x numbers of item n are 0 -/
def zz (n : Nat) (f : Nat → Int32) (x : Nat) : Nat → Int32 := fun j => if 6 + 5 * n ≤ j ∧ j < 6 + 5 * n + x then 0 else f j
theorem zz_s {n x : Nat} {f : Nat → Int32} : upd (zz n f x) (6 + 5 * n + x) 0 = zz n f (x + 1) := by
  funext j
  by_cases c : j = 6 + 5 * n + x
  · rw [c, pk_us]
    unfold zz
    rw [if_pos (by omega)]
  · rw [pk_un c]
    unfold zz
    by_cases d : 6 + 5 * n ≤ j ∧ j < 6 + 5 * n + x
    · rw [if_pos d, if_pos (by omega)]
    · rw [if_neg d, if_neg (by omega)]
theorem zz_0 {n : Nat} {f : Nat → Int32} : zz n f 0 = f := by
  funext j
  unfold zz
  rw [if_neg (by omega)]
theorem sl_add91 {x1 : Int32} {x2 : Int32} {x3 : Int32} {x5 : Int32} {t_thrown : Int32} {t_remembered : Int32} {t_past : Nat → Int32} {k112 : (Nat → Int32) → Prop} {Q : Int32 → Int32 → Int32 → (Nat → Int32) → (Nat → Int32) → Prop} {n : Nat} (hn : n < 12) (h5 : x5 = iI (n : Nat)) {f : Nat → Int32} (hk : k112 (zz n f 5)) : ∀ (d x : Nat), x + d = 5 → wp_X11_addItem_L91 x1 x2 x3 x5 t_thrown t_remembered t_past k112 Q (d + 1) (iI (x : Nat)) (zz n f x) := by
  subst h5
  intro d
  induction d with
  | zero =>
    intro x hx
    unfold wp_X11_addItem_L91
    obtain rfl : x = 5 := by omega
    exact ⟨fun _ => hk, fun z => absurd (by decide) z⟩
  | succ d ih =>
    intro x hx
    have nx := ih (x + 1) (by omega)
    unfold wp_X11_addItem_L91
    rw [iI_lit 5, iI_le (by omega) (by omega) (by omega) (by omega), iI_succ]
    refine ⟨fun z => absurd z (by omega), fun _ => sp_put11 hn (by omega) ?_⟩
    rw [zz_s]
    exact nx
theorem neP_adS {s : Nat → Nat} {net : Nat → Int32} (hN : neP s net) (h : s 0 < 12) {a b c : Nat} : neP (adS s a b c) (upd (upd (upd (zz (s 0) (upd net 0 (iI ((s 0 + 1 : Nat) : Int))) 5) (6 + 5 * s 0 + 0) (iI (a : Nat))) (6 + 5 * s 0 + 1) (iI (b : Nat))) (6 + 5 * s 0 + 2) (iI (c : Nat))) := by
  obtain ⟨h1, h2⟩ := hN
  refine ⟨fun i hi => ?_, fun i w hi hw => ?_⟩
  · rw [pk_un (by omega), pk_un (by omega), pk_un (by omega)]
    unfold zz
    rw [if_neg (by omega)]
    by_cases e : i = 0
    · subst e; rw [pk_us, adS_0]
    · rw [pk_un e, adS_low e (by omega)]; exact h1 i hi
  · rw [adS_0] at hi
    by_cases e : i < s 0
    · rw [pk_un (by omega), pk_un (by omega), pk_un (by omega)]
      unfold zz
      rw [if_neg (by omega), pk_un (by omega), adS_low (by omega) (by omega)]
      exact h2 i w e hw
    · obtain rfl : i = s 0 := by omega
      rw [adS_new hw]
      rcases (show w = 0 ∨ w = 1 ∨ w = 2 ∨ w = 3 ∨ w = 4 by omega) with rfl | rfl | rfl | rfl | rfl
      · rw [pk_un (by omega), pk_un (by omega), pk_us]; rfl
      · rw [pk_un (by omega), pk_us]; rfl
      · rw [pk_us]; rfl
      · rw [pk_un (by omega), pk_un (by omega), pk_un (by omega)]
        unfold zz
        rw [if_pos (by omega)]; exact iI_lit 0
      · rw [pk_un (by omega), pk_un (by omega), pk_un (by omega)]
        unfold zz
        rw [if_pos (by omega)]; exact iI_lit 0
theorem sr_addB {s : Nat → Nat} (hW : WF s) {ps : List (Nat → Nat)} (hl : ps.length ≤ 8) (hw : ∀ t ∈ ps, WF t) {th rem : Int32} {net past : Nat → Int32} (hP : prP ps rem past) (hN : neP s net) {x1 x2 x3 : Int32} {a b c : Nat} (h1 : x1 = iI (a : Nat)) (h2 : x2 = iI (b : Nat)) (h3 : x3 = iI (c : Nat)) (h : s 0 < 12) {Q : Int32 → Int32 → Int32 → (Nat → Int32) → (Nat → Int32) → Prop} (hQ : ∀ rem past net, prP (pshL ps s) rem past → neP (adS s a b c) net → Q (iI (s 0)) th rem net past) :
    wp_X11_remember rem past net (fun (u69_2 : Int32) (u69_3 : Nat → Int32) => wp_X11_many net (fun (r73 : Int32) => vp_in 0 66 ∧ (vp_in 0 66 ∧ (∃ n91, wp_X11_addItem_L91 x1 x2 x3 r73 th u69_2 u69_3 (fun (t_net : Nat → Int32) => wp_X11_put r73 0 x1 t_net (fun (u117_5 : Nat → Int32) => wp_X11_put r73 1 x2 u117_5 (fun (u125_6 : Nat → Int32) => wp_X11_put r73 2 x3 u125_6 (fun (u133_7 : Nat → Int32) => Q r73 th u69_2 u133_7 u69_3)))) Q n91 0 (upd net (0 : Int32).toNatClampNeg (net (0 : Int32).toNatClampNeg + 1)))))) := by
  subst h1
  subst h2
  subst h3
  have e0 : (0 : Int32).toNatClampNeg = 0 := by decide
  have i0 : vp_in 0 66 := by rw [vp_in_iff]; decide
  refine sr_remember hW hl hw hP hN fun rem past hP2 => sp_many hN ⟨i0, i0, 6, ?_⟩
  rw [e0, hN.1 0 (by omega), iI_succ, iI_lit 0]
  have fin := neP_adS hN h (a := a) (b := b) (c := c)
  have := sl_add91 (x1 := iI (a : Nat)) (x2 := iI (b : Nat)) (x3 := iI (c : Nat)) (t_thrown := th) (t_remembered := rem) (t_past := past) (Q := Q) (x5 := iI (s 0)) (n := s 0) h rfl (f := upd net 0 (iI ((s 0 + 1 : Nat) : Int))) (k112 := fun (t_net : Nat → Int32) => wp_X11_put (iI (s 0)) (iI ((0 : Nat) : Int)) (iI (a : Nat)) t_net (fun (u117_5 : Nat → Int32) => wp_X11_put (iI (s 0)) 1 (iI (b : Nat)) u117_5 (fun (u125_6 : Nat → Int32) => wp_X11_put (iI (s 0)) 2 (iI (c : Nat)) u125_6 (fun (u133_7 : Nat → Int32) => Q (iI (s 0)) th rem u133_7 past)))) (by
    rw [iI_lit 1, iI_lit 2]
    exact sp_put11 h (by omega) (sp_put11 h (by omega) (sp_put11 h (by omega) (hQ _ _ _ hP2 fin)))) 5 0 rfl
  rw [zz_0] at this
  exact this
theorem sr_addItem {s : Nat → Nat} (hW : WF s) {ps : List (Nat → Nat)} (hl : ps.length ≤ 8) (hw : ∀ t ∈ ps, WF t) {p1 : Int32} {p2 : Int32} {p3 : Int32} {t_thrown : Int32} {t_remembered : Int32} {t_net : Nat → Int32} {t_past : Nat → Int32} {Q : Int32 → Int32 → Int32 → (Nat → Int32) → (Nat → Int32) → Prop} (hP : prP ps t_remembered t_past) (hN : neP s t_net) (hQ : vl9 p1 ∧ vl9 p2 ∧ vl9 p3 → s 0 < 12 → ∀ rem past net, prP (pshL ps s) rem past → neP (adS s p1.toInt.toNat p2.toInt.toNat p3.toInt.toNat) net → Q (iI (s 0)) 0 rem net past)
    (hX : ∀ c : Int32, (¬ (vl9 p1 ∧ vl9 p2 ∧ vl9 p3) ∧ c = 1) ∨ ((vl9 p1 ∧ vl9 p2 ∧ vl9 p3) ∧ ¬ s 0 < 12 ∧ c = 2) → Q 0 c t_remembered t_net t_past) : wp_X11_addItem p1 p2 p3 t_thrown t_remembered t_net t_past Q := by
  have h12 := hW.1
  have bad : ¬ (vl9 p1 ∧ vl9 p2 ∧ vl9 p3) → wp_X11_addItem_b40 Q p1 p2 p3 t_thrown t_remembered t_net t_past := fun z => by
    unfold wp_X11_addItem_b40
    have bz := hX 1 (Or.inl ⟨z, rfl⟩)
    refine sp_many hN ⟨fun _ => ?_, fun _ => ?_⟩
    · refine sp_passes2 (a := False) (b := False) ?_
      exact ⟨fun y => absurd rfl y, fun _ => bz⟩
    · refine sp_passes2 (a := False) (b := True) ?_
      exact ⟨fun y => absurd rfl y, fun _ => bz⟩
  unfold wp_X11_addItem
  refine sp_in0 (k := 99) (by decide) ?_
  by_cases a : 0 ≤ p1.toInt ∧ p1.toInt ≤ 99
  · rw [if_pos a]
    refine ⟨fun z => absurd z (by decide), fun _ => sp_in0 (k := 99) (by decide) ?_⟩
    by_cases b : 0 ≤ p2.toInt ∧ p2.toInt ≤ 99
    · rw [if_pos b]
      refine ⟨fun z => absurd z (by decide), fun _ => sp_in0 (k := 99) (by decide) ?_⟩
      by_cases c : 0 ≤ p3.toInt ∧ p3.toInt ≤ 99
      · rw [if_pos c]
        refine ⟨fun z => absurd z (by decide), fun _ => sp_many hN ?_⟩
        rw [iI_lit 12, iI_le (by omega) (by omega) (by omega) (by omega)]
        refine ⟨fun d => ?_, fun d => ?_⟩
        · refine sp_passes2 (a := True) (b := False) ?_
          exact ⟨fun y => absurd rfl y, fun _ => hX 2 (Or.inr ⟨⟨a, b, c⟩, by omega, rfl⟩)⟩
        · refine sp_passes2 (a := True) (b := True) ?_
          exact ⟨fun _ => sr_addB hW hl hw hP hN (i_nat a.1) (i_nat b.1) (i_nat c.1) (by omega) (hQ ⟨a, b, c⟩ (by omega)), fun y => absurd y (by decide)⟩
      · rw [if_neg c]
        exact ⟨fun _ => bad fun z => c z.2.2, fun z => absurd rfl z⟩
    · rw [if_neg b]
      exact ⟨fun _ => bad fun z => b z.2.1, fun z => absurd rfl z⟩
  · rw [if_neg a]
    exact ⟨fun _ => bad fun z => a z.1, fun z => absurd rfl z⟩
/-- the first x numbers of item i come from item i+1 -/
def mv5 (f : Nat → Int32) (i x : Nat) : Nat → Int32 := fun j => if 6 + 5 * i ≤ j ∧ j < 6 + 5 * i + x then f (j + 5) else f j
theorem mv5_s {f : Nat → Int32} {i x : Nat} (hx : x < 5) : upd (mv5 f i x) (6 + 5 * i + x) (mv5 f i x (6 + 5 * (i + 1) + x)) = mv5 f i (x + 1) := by
  funext j
  by_cases c : j = 6 + 5 * i + x
  · rw [c, pk_us]
    unfold mv5
    rw [if_neg (by omega), if_pos (by omega), show 6 + 5 * i + x + 5 = 6 + 5 * (i + 1) + x by omega]
  · rw [pk_un c]
    unfold mv5
    by_cases d : 6 + 5 * i ≤ j ∧ j < 6 + 5 * i + x
    · rw [if_pos d, if_pos (by omega)]
    · rw [if_neg d, if_neg (by omega)]
theorem mv5_0 {f : Nat → Int32} {i : Nat} : mv5 f i 0 = f := by
  funext j
  unfold mv5
  rw [if_neg (by omega)]
theorem sp_ofItemR {k w : Nat} (hk : k < 12) (hw : w < 5) {row : Nat → Int32} {Q : Int32 → Prop} (hQ : Q (row (6 + 5 * k + w))) : wp_X11_ofItem (iI (k : Nat)) (iI (w : Nat)) row Q := by
  unfold wp_X11_ofItem
  rw [ix_item, iI_clN (by omega)]
  exact ⟨in66 (by omega), hQ⟩
theorem sl_dr40 {x1 : Int32} {x2 : Int32} {t_thrown : Int32} {t_remembered : Int32} {t_past : Nat → Int32} {k65 : (Nat → Int32) → Prop} {Q : Int32 → Int32 → Int32 → (Nat → Int32) → (Nat → Int32) → Prop} {i : Nat} (hi : i < 11) (h2 : x2 = iI (i : Nat)) {f : Nat → Int32} (hk : k65 (mv5 f i 5)) : ∀ (d x : Nat), x + d = 5 → wp_X11_dropItem_L40 x1 x2 t_thrown t_remembered t_past k65 Q (d + 1) (iI (x : Nat)) (mv5 f i x) := by
  subst h2
  intro d
  induction d with
  | zero =>
    intro x hx
    unfold wp_X11_dropItem_L40
    obtain rfl : x = 5 := by omega
    exact ⟨fun _ => hk, fun z => absurd (by decide) z⟩
  | succ d ih =>
    intro x hx
    have nx := ih (x + 1) (by omega)
    unfold wp_X11_dropItem_L40
    rw [iI_succ i, iI_lit 5, iI_le (by omega) (by omega) (by omega) (by omega), iI_succ]
    refine ⟨fun z => absurd z (by omega), fun _ => sp_ofItemR (by omega) (by omega) (sp_put11 (by omega) (by omega) ?_)⟩
    rw [mv5_s (by omega)]
    exact nx
/-- the row with the items from k to x-1 moved down -/
def mvA (f : Nat → Int32) (k x : Nat) : Nat → Int32 := fun j => if 6 + 5 * k ≤ j ∧ j < 6 + 5 * x then f (j + 5) else f j
theorem mvA_s {f : Nat → Int32} {k x : Nat} (h : k ≤ x) : mv5 (mvA f k x) x 5 = mvA f k (x + 1) := by
  funext j
  unfold mv5 mvA
  by_cases c : 6 + 5 * x ≤ j ∧ j < 6 + 5 * x + 5
  · rw [if_pos c, if_neg (by omega), if_pos (by omega)]
  · rw [if_neg c]
    by_cases d : 6 + 5 * k ≤ j ∧ j < 6 + 5 * x
    · rw [if_pos d, if_pos (by omega)]
    · rw [if_neg d, if_neg (by omega)]
theorem mvA_0 {f : Nat → Int32} {k : Nat} : mvA f k k = f := by
  funext j
  unfold mvA
  rw [if_neg (by omega)]
theorem mvA_it {f : Nat → Int32} {k m j w : Nat} (hj : j < m) (hw : w < 5) : mvA f k m (6 + 5 * j + w) = f (6 + 5 * nx k j + w) := by
  unfold mvA nx
  by_cases c : j < k
  · rw [if_neg (by omega), if_pos c]
  · rw [if_pos (by omega), if_neg c]
    congr 1
    omega
theorem sl_dr30 {x1 : Int32} {t_thrown : Int32} {t_remembered : Int32} {t_past : Nat → Int32} {k71 : (Nat → Int32) → Prop} {Q : Int32 → Int32 → Int32 → (Nat → Int32) → (Nat → Int32) → Prop} {m k : Nat} (hm : m < 12) {f : Nat → Int32} (h0 : f 0 = iI (m : Nat)) (hk : k71 (mvA f k m)) : ∀ (d x : Nat), x + d = m → k ≤ x → wp_X11_dropItem_L30 x1 t_thrown t_remembered t_past k71 Q (d + 1) (iI (x : Nat)) (mvA f k x) := by
  intro d
  induction d with
  | zero =>
    intro x hx hkx
    unfold wp_X11_dropItem_L30
    obtain rfl : x = m := by omega
    unfold wp_X11_many
    have e0 : (0 : Int32).toNatClampNeg = 0 := by decide
    have : mvA f k x 0 = iI (x : Nat) := by unfold mvA; rw [if_neg (by omega)]; exact h0
    rw [e0, this]
    exact ⟨by rw [vp_in_iff]; decide, fun _ => hk, fun z => absurd (Int32.le_refl _) z⟩
  | succ d ih =>
    intro x hx hkx
    have nx := ih (x + 1) (by omega) (by omega)
    unfold wp_X11_dropItem_L30 wp_X11_many
    have e0 : (0 : Int32).toNatClampNeg = 0 := by decide
    have : mvA f k x 0 = iI (m : Nat) := by unfold mvA; rw [if_neg (by omega)]; exact h0
    rw [e0, this]
    dsimp only
    rw [iI_le (by omega) (by omega) (by omega) (by omega), iI_succ]
    refine ⟨by rw [vp_in_iff]; decide, fun z => absurd z (by omega), fun _ => ⟨6, ?_⟩⟩
    have := sl_dr40 (x1 := x1) (x2 := iI (x : Nat)) (t_thrown := t_thrown) (t_remembered := t_remembered) (t_past := t_past) (Q := Q) (i := x) (by omega) rfl (f := mvA f k x) (k65 := fun (t_net : Nat → Int32) => wp_X11_dropItem_L30 x1 t_thrown t_remembered t_past k71 Q (d + 1) (iI ((x + 1 : Nat) : Int)) t_net) (by rw [mvA_s hkx]; exact nx) 5 0 rfl
    rw [mv5_0] at this
    rw [iI_lit 0]
    exact this
/-- the first x items' sets come without item k -/
def wrR (f : Nat → Int32) (F : Nat → Nat → Nat) (k x : Nat) (r : Nat → Int32) : Prop := (∀ j, (∀ i, i < x → j ≠ 6 + 5 * i + 3 ∧ j ≠ 6 + 5 * i + 4) → r j = f j) ∧ ∀ i, i < x → r (6 + 5 * i + 3) = iI ((wo (F 3 i) k : Nat) : Int) ∧ r (6 + 5 * i + 4) = iI ((wo (F 4 i) k : Nat) : Int)
theorem sl_dr73 {x1 : Int32} {t_thrown : Int32} {t_remembered : Int32} {t_past : Nat → Int32} {k119 : (Nat → Int32) → Prop} {Q : Int32 → Int32 → Int32 → (Nat → Int32) → (Nat → Int32) → Prop} {m k : Nat} (hm : m < 12) (hk12 : k < 12) (h1 : x1 = iI (k : Nat)) {f : Nat → Int32} {F : Nat → Nat → Nat} (h0 : f 0 = iI (m : Nat)) (hF : ∀ i, i < m → f (6 + 5 * i + 3) = iI (F 3 i : Nat) ∧ F 3 i < 4096 ∧ f (6 + 5 * i + 4) = iI (F 4 i : Nat) ∧ F 4 i < 4096) (hk : ∀ r, wrR f F k m r → k119 r) : ∀ (d x : Nat) (r : Nat → Int32), x + d = m → wrR f F k x r → wp_X11_dropItem_L73 x1 t_thrown t_remembered t_past k119 Q (d + 1) (iI (x : Nat)) r := by
  subst h1
  have e0 : (0 : Int32).toNatClampNeg = 0 := by decide
  intro d
  induction d with
  | zero =>
    intro x r hx hr
    unfold wp_X11_dropItem_L73
    obtain rfl : x = m := by omega
    unfold wp_X11_many
    have : r 0 = iI (x : Nat) := by rw [hr.1 0 (fun i hi => by omega)]; exact h0
    rw [e0, this]
    exact ⟨by rw [vp_in_iff]; decide, fun _ => hk r hr, fun z => absurd (Int32.le_refl _) z⟩
  | succ d ih =>
    intro x r hx hr
    unfold wp_X11_dropItem_L73 wp_X11_many
    have : r 0 = iI (m : Nat) := by rw [hr.1 0 (fun i hi => by omega)]; exact h0
    rw [e0, this]
    dsimp only
    rw [iI_le (by omega) (by omega) (by omega) (by omega), iI_succ, iI_lit 3, iI_lit 4]
    obtain ⟨a1, a2, a3, a4⟩ := hF x (by omega)
    have b1 : r (6 + 5 * x + 3) = iI (F 3 x : Nat) := by rw [hr.1 _ (fun i hi => by omega)]; exact a1
    have b2 : r (6 + 5 * x + 4) = iI (F 4 x : Nat) := by rw [hr.1 _ (fun i hi => by omega)]; exact a3
    refine ⟨by rw [vp_in_iff]; decide, fun z => absurd z (by omega), fun _ => sp_ofItemR (by omega) (by omega) ?_⟩
    rw [b1]
    refine sp_without a2 hk12 (sp_put11 (by omega) (by omega) (sp_ofItemR (by omega) (by omega) ?_))
    rw [pk_un (by omega), b2]
    refine sp_without a4 hk12 (sp_put11 (by omega) (by omega) (ih (x + 1) _ (by omega) ⟨fun j hj => ?_, fun i hi => ?_⟩))
    · have := hj x (by omega)
      rw [pk_un this.2, pk_un this.1]
      exact hr.1 j fun i hi => hj i (by omega)
    · by_cases c : i = x
      · subst c
        rw [pk_un (by omega), pk_us, pk_us]
        exact ⟨rfl, rfl⟩
      · rw [pk_un (by omega), pk_un (by omega), pk_un (by omega), pk_un (by omega)]
        exact hr.2 i (by omega)
theorem sr_dropItem {s : Nat → Nat} (hW : WF s) {ps : List (Nat → Nat)} (hl : ps.length ≤ 8) (hw : ∀ t ∈ ps, WF t) {p1 : Int32} {t_thrown : Int32} {t_remembered : Int32} {t_net : Nat → Int32} {t_past : Nat → Int32} {Q : Int32 → Int32 → Int32 → (Nat → Int32) → (Nat → Int32) → Prop} (hP : prP ps t_remembered t_past) (hN : neP s t_net) (hQ : 0 ≤ p1.toInt ∧ p1.toInt < s 0 → ∀ rem past net, prP (pshL ps s) rem past → neP (drS s p1.toInt.toNat) net → Q (iI ((s 0 - 1 : Nat) : Int)) 0 rem net past) (hX : ¬ (0 ≤ p1.toInt ∧ p1.toInt < s 0) → Q 0 1 t_remembered t_net t_past) : wp_X11_dropItem p1 t_thrown t_remembered t_net t_past Q := by
  have h12 := hW.1
  have hp := wf_pow hW
  obtain ⟨h0, h1, h2, h3, h4, h5, h6⟩ := id hW
  unfold wp_X11_dropItem
  refine sp_isItem hW hN (sp_passes ?_)
  by_cases h : 0 ≤ p1.toInt ∧ p1.toInt < s 0
  · rw [if_pos h]
    have ans := hQ h
    obtain ⟨k, hk⟩ : ∃ k : Nat, p1.toInt = k := ⟨p1.toInt.toNat, by omega⟩
    have e1 : p1 = iI (k : Nat) := by rw [iI_of p1, hk]
    rw [hk, Int.toNat_natCast] at ans
    subst e1
    obtain ⟨m, hm⟩ : ∃ m, s 0 = m + 1 := ⟨s 0 - 1, by omega⟩
    have e0 : (0 : Int32).toNatClampNeg = 0 := by decide
    have e3 : (3 : Int32).toNatClampNeg = 3 := by decide
    have e4 : (4 : Int32).toNatClampNeg = 4 := by decide
    have e5 : (5 : Int32).toNatClampNeg = 5 := by decide
    have i0 : vp_in 0 66 := by rw [vp_in_iff]; decide
    have i3 : vp_in 3 66 := by rw [vp_in_iff]; decide
    have i4 : vp_in 4 66 := by rw [vp_in_iff]; decide
    have i5 : vp_in 5 66 := by rw [vp_in_iff]; decide
    have em : iI (s 0) - 1 = iI (m : Nat) := by rw [iI_lit 1, iI_sub]; congr 1; omega
    refine ⟨fun _ => sr_remember hW hl hw hP hN fun rem past hP2 => ⟨i0, i0, m - k + 1, ?_⟩, fun z => absurd z (by decide)⟩
    rw [e0, hN.1 0 (by omega), em]
    have f0 : upd t_net 0 (iI (m : Nat)) 0 = iI (m : Nat) := pk_us
    have fi : ∀ i w, i < s 0 → w < 5 → upd t_net 0 (iI (m : Nat)) (6 + 5 * i + w) = iI (s (6 + 5 * i + w)) := fun i w hi hw => by rw [pk_un (by omega)]; exact hN.2 i w hi hw
    have st := fun {kk : (Nat → Int32) → Prop} (hh : kk (mvA (upd t_net 0 (iI (m : Nat))) k m)) => sl_dr30 (x1 := iI (k : Nat)) (t_thrown := 0) (t_remembered := rem) (t_past := past) (Q := Q) (m := m) (k := k) (by omega) f0 hh (m - k) k (by omega) (Nat.le_refl k)
    simp only [mvA_0] at st
    refine st ⟨m + 1, ?_⟩
    rw [iI_lit 0]
    have g0 : mvA (upd t_net 0 (iI (m : Nat))) k m 0 = iI (m : Nat) := by unfold mvA; rw [if_neg (by omega)]; exact f0
    have gl : ∀ j, 1 ≤ j → j < 6 → mvA (upd t_net 0 (iI (m : Nat))) k m j = iI (s j) := fun j hj1 hj => by unfold mvA; rw [if_neg (by omega), pk_un (by omega)]; exact hN.1 j hj
    have gi : ∀ i w, i < m → w < 5 → mvA (upd t_net 0 (iI (m : Nat))) k m (6 + 5 * i + w) = iI (s (6 + 5 * nx k i + w)) := fun i w hi hw => by
      rw [mvA_it hi hw]
      exact fi _ w (by unfold nx; split <;> omega) hw
    refine sl_dr73 (m := m) (k := k) (by omega) (by omega) rfl g0 (F := fun w i => s (6 + 5 * nx k i + w)) (fun i hi => ?_) (fun r hr => ?_) m 0 _ (Nat.zero_add m) ⟨fun _ _ => rfl, fun i z => absurd z (by omega)⟩
    · have hn : nx k i < s 0 := by unfold nx; split <;> omega
      obtain ⟨-, -, -, w3, w4⟩ := h6 _ hn
      exact ⟨gi i 3 hi (by omega), by show s (6 + 5 * nx k i + 3) < 4096; omega, gi i 4 hi (by omega), by show s (6 + 5 * nx k i + 4) < 4096; omega⟩
    · have rl : ∀ j, 1 ≤ j → j < 6 → r j = iI (s j) := fun j hj1 hj => by rw [hr.1 j (fun i hi => by omega)]; exact gl j hj1 hj
      have r0 : r 0 = iI (m : Nat) := by rw [hr.1 0 (fun i hi => by omega)]; exact g0
      rw [e3, rl 3 (by omega) (by omega)]
      refine ⟨i3, sp_without (by omega) (by omega) ⟨i3, i4, ?_⟩⟩
      rw [e4, pk_un (by omega), rl 4 (by omega) (by omega)]
      refine sp_without (by omega) (by omega) ⟨i4, i5, ?_⟩
      rw [e5, pk_un (by omega), pk_un (by omega), rl 5 (by omega) (by omega)]
      refine sp_without (by omega) (by omega) ⟨i5, ?_⟩
      unfold wp_X11_many
      rw [e0, pk_un (by omega), pk_un (by omega), pk_un (by omega), r0]
      have := ans rem past (upd (upd (upd r 3 (iI ((wo (s 3) k : Nat) : Int))) 4 (iI ((wo (s 4) k : Nat) : Int))) 5 (iI ((wo (s 5) k : Nat) : Int))) hP2 ⟨fun i hi => ?_, fun i w hi hw => ?_⟩
      · rw [hm] at this
        exact ⟨i0, this⟩
      · rcases (show i = 0 ∨ i = 1 ∨ i = 2 ∨ i = 3 ∨ i = 4 ∨ i = 5 by omega) with rfl | rfl | rfl | rfl | rfl | rfl
        · rw [pk_un (by omega), pk_un (by omega), pk_un (by omega), r0, drS_0, hm]; rfl
        · rw [pk_un (by omega), pk_un (by omega), pk_un (by omega), rl 1 (by omega) (by omega), drS_12 (by omega) (by omega)]
        · rw [pk_un (by omega), pk_un (by omega), pk_un (by omega), rl 2 (by omega) (by omega), drS_12 (by omega) (by omega)]
        · rw [pk_un (by omega), pk_un (by omega), pk_us, drS_35 (by omega) (by omega)]
        · rw [pk_un (by omega), pk_us, drS_35 (by omega) (by omega)]
        · rw [pk_us, drS_35 (by omega) (by omega)]
      · rw [drS_0] at hi
        rw [pk_un (by omega), pk_un (by omega), pk_un (by omega), drS_it hw]
        by_cases c : w < 3
        · rw [if_pos c, hr.1 _ (fun x hx => by omega)]
          exact gi i w (by omega) hw
        · rw [if_neg c]
          rcases (show w = 3 ∨ w = 4 by omega) with rfl | rfl
          · exact (hr.2 i (by omega)).1
          · exact (hr.2 i (by omega)).2
  · rw [if_neg h]
    exact ⟨fun z => absurd rfl z, fun _ => hX h⟩
