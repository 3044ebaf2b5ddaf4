/-! LAYERS OF THE CLASS: the lists by joy and by gain -/
def lkP (nx : Nat → Int32) : Int32 → List Nat → Prop
  | h, [] => h = -1
  | h, q :: l => h = iI (q : Nat) ∧ q < 4096 ∧ lkP nx (nx q) l
theorem lkP_un {nx : Nat → Int32} {q : Nat} {v : Int32} : ∀ {l : List Nat} {h : Int32}, q ∉ l → lkP nx h l → lkP (upd nx q v) h l
  | [], _, _, z => z
  | p :: l, _, hn, ⟨a, b, c⟩ => by
    have n1 : p ≠ q := fun e => hn (by rw [e]; exact List.mem_cons_self)
    have n2 : q ∉ l := fun e => hn (List.mem_cons_of_mem _ e)
    exact ⟨a, b, by rw [pk_un n1]; exact lkP_un n2 c⟩
theorem nd_len : ∀ (N : Nat) (l : List Nat), l.Nodup → (∀ q, q ∈ l → q < N) → l.length ≤ N
  | 0, [], _, _ => Nat.le_refl _
  | 0, q :: l, _, h => absurd (h q List.mem_cons_self) (Nat.not_lt_zero _)
  | N + 1, l, hd, h => by
    by_cases c : N ∈ l
    · have e := List.length_erase_of_mem c
      have := nd_len N (l.erase N) (hd.erase N) (fun q hq => by
        have m := (hd.mem_erase_iff).mp hq
        have := h q m.2
        have := m.1
        omega)
      omega
    · have := nd_len N l hd (fun q hq => by
        have := h q hq
        by_cases e : q = N
        · rw [e] at hq; exact absurd hq c
        · omega)
      omega
theorem sp_putAhead {q v : Nat} (hq : q < 4096) (hv : v ≤ 1188) {t2 t3 : Nat → Int32} {Q : (Nat → Int32) → (Nat → Int32) → Prop} (hQ : Q (upd t2 v (iI (q : Nat))) (upd t3 q (t2 v))) : wp_X3_putAhead (iI (q : Nat)) (iI (v : Nat)) t2 t3 Q := by
  unfold wp_X3_putAhead
  rw [iI_lit 0, iI_lit 1189, iI_lt (by omega) (by omega) (by omega) (by omega), iI_le (by omega) (by omega) (by omega) (by omega), iI_clN (by omega), iI_clN (by omega)]
  exact ⟨fun z => by omega, fun _ => ⟨fun z => by omega, fun _ => ⟨in_lit (by omega) (by omega), in_lit (by omega) (by omega), in_lit (by omega) (by omega), hQ⟩⟩⟩
def lsP (first next : Nat → Int32) (G : Nat → List Nat) : Prop := ∀ v, v ≤ 1188 → lkP next (first v) (G v)
theorem lsP_put {first next : Nat → Int32} {G : Nat → List Nat} {q v : Nat} (h : lsP first next G) (hq : q < 4096) (hn : ∀ w, w ≤ 1188 → q ∉ G w) : lsP (upd first v (iI (q : Nat))) (upd next q (first v)) (fun w => if w = v then q :: G w else G w) := by
  intro w hw
  show lkP _ _ (if w = v then q :: G w else G w)
  by_cases e : w = v
  · subst e
    rw [if_pos rfl, pk_us]
    exact ⟨rfl, hq, by rw [pk_us]; exact lkP_un (hn w hw) (h w hw)⟩
  · rw [if_neg e, pk_un e]
    exact lkP_un (hn w hw) (h w hw)
/-- the allowed sets below m with joy v, the last first -/
def LJ (s : Nat → Nat) : Nat → Nat → List Nat
  | 0, _ => []
  | m + 1, v => if rf s (s 1) m = 0 then (if v = sm s 2 m (s 0) then m :: LJ s m v else LJ s m v) else LJ s m v
theorem LJ_mem {s : Nat → Nat} {v q : Nat} : ∀ {m : Nat}, q ∈ LJ s m v ↔ q < m ∧ rf s (s 1) q = 0 ∧ v = sm s 2 q (s 0)
  | 0 => ⟨fun h => absurd h List.not_mem_nil, fun h => absurd h.1 (Nat.not_lt_zero _)⟩
  | m + 1 => by
    have ih := LJ_mem (s := s) (v := v) (q := q) (m := m)
    simp only [LJ]
    by_cases c : q = m
    · subst c
      by_cases a : rf s (s 1) q = 0
      · by_cases b : v = sm s 2 q (s 0)
        · rw [if_pos a, if_pos b]
          exact ⟨fun _ => ⟨by omega, a, b⟩, fun _ => List.mem_cons_self⟩
        · rw [if_pos a, if_neg b, ih]
          exact ⟨fun z => by omega, fun z => absurd z.2.2 b⟩
      · rw [if_neg a, ih]
        exact ⟨fun z => by omega, fun z => absurd z.2.1 a⟩
    · have e : (q < m + 1 ∧ rf s (s 1) q = 0 ∧ v = sm s 2 q (s 0)) ↔ (q < m ∧ rf s (s 1) q = 0 ∧ v = sm s 2 q (s 0)) := ⟨fun z => ⟨by omega, z.2⟩, fun z => ⟨by omega, z.2⟩⟩
      rw [e, ← ih]
      split
      · split
        · rw [List.mem_cons]
          exact ⟨fun z => z.resolve_left c, Or.inr⟩
        · rfl
      · rfl
theorem LJ_nd {s : Nat → Nat} {v : Nat} : ∀ {m : Nat}, (LJ s m v).Nodup
  | 0 => List.nodup_nil
  | m + 1 => by
    have ih := LJ_nd (s := s) (v := v) (m := m)
    simp only [LJ]
    split
    · split
      · refine List.nodup_cons.mpr ⟨fun z => ?_, ih⟩
        have := (LJ_mem.mp z).1
        omega
      · exact ih
    · exact ih
theorem sp_sortByJoy {s : Nat → Nat} (hW : WF s) {gg : Nat → Int32} {p2 : Int32} {t_firstOfJoy : Nat → Int32} {t1_sets : Int32} {t1_limit : Int32} {t1_mustSet : Int32} {t1_neverSet : Int32} {t_layer : Nat → Int32} {t1_weight : Nat → Int32} {t1_barred : Nat → Int32} {t1_needed : Nat → Int32} {t1_joy : Nat → Int32} {t_nextOfJoy : Nat → Int32} {Q : (Nat → Int32) → (Nat → Int32) → (Nat → Int32) → Prop} (hc : p2 = iI (s 1)) (hP : chP s t1_sets t1_limit t1_mustSet t1_neverSet t1_weight gg t1_joy t1_barred t1_needed) (hQ : ∀ f l nx, lsP f nx (LJ s (2 ^ s 0)) → (∀ q, q < 2 ^ s 0 → l q = -1) → Q f l nx) : wp_X3_sortByJoy p2 t_firstOfJoy t1_sets t1_limit t1_mustSet t1_neverSet t_layer t1_weight t1_barred t1_needed t1_joy t_nextOfJoy Q := by
  have hp := wf_pow hW
  have hp2 := Nat.two_pow_pos (s 0)
  obtain ⟨p1, p2_, p3, p4, p5, p6, p7, p8, p9⟩ := id hP
  subst hc
  unfold wp_X3_sortByJoy
  refine sp_fill fun f hf => ⟨2 ^ s 0 + 1, ?_⟩
  have key : ∀ (d x : Nat) (f l nx : Nat → Int32), x + d = 2 ^ s 0 → lsP f nx (LJ s x) → (∀ q, q < x → l q = -1) → wp_X3_sortByJoy_L10 t1_sets t1_limit t1_mustSet t1_neverSet t1_weight t1_barred t1_needed t1_joy (iI (s 1)) Q (d + 1) (iI (x : Nat)) f l nx := by
    intro d
    induction d with
    | zero =>
      intro x f l nx hx hf hl
      unfold wp_X3_sortByJoy_L10
      obtain rfl : x = 2 ^ s 0 := by omega
      rw [p1, iI_le (by omega) (by omega) (by omega) (by omega), ← p1]
      exact ⟨fun _ => hQ f l nx hf hl, fun c => absurd (Int.le_refl _) c⟩
    | succ d ih =>
      intro x f l nx hx hf hl
      unfold wp_X3_sortByJoy_L10
      have e0 : t1_sets ≤ iI (x : Nat) ↔ ((2 ^ s 0 : Nat) : Int) ≤ (x : Int) := by rw [p1, iI_le (by omega) (by omega) (by omega) (by omega)]
      have e1 : (4096 : Int32) ≤ iI (x : Nat) ↔ ((4096 : Nat) : Int) ≤ (x : Int) := by rw [iI_lit 4096, iI_le (by omega) (by omega) (by omega) (by omega)]
      have hr := rf_le s (s 1) x
      have hl2 : ∀ q, q < x + 1 → upd l x (-1) q = -1 := by
        intro q hq
        by_cases e : q = x
        · rw [e, pk_us]
        · rw [pk_un e]; exact hl q (by omega)
      rw [e0, e1, iI_s1, iI_clN (by omega)]
      refine ⟨fun c => absurd c (by omega), fun _ => ⟨fun c => absurd c (by omega), fun _ => ⟨in_lit (by omega) (by omega), ?_⟩⟩⟩
      refine sp_reason hW hW.2.1 (by omega) hP ?_
      rw [iI_z (by omega)]
      refine ⟨fun c => ?_, fun c => ⟨in_lit (by omega) (by omega), ?_⟩⟩
      · refine ih (x + 1) f _ nx (by omega) (fun v hv => ?_) hl2
        have := hf v hv
        simp only [LJ]
        rw [if_neg c]
        exact this
      · have hj2 : sm s 2 x (s 0) ≤ 1188 := sm_bd hW (by omega) x
        rw [p7 x (by omega)]
        refine sp_putAhead (by omega) hj2 ?_
        refine ih (x + 1) _ _ _ (by omega) (fun v hv => ?_) hl2
        have := lsP_put (v := sm s 2 x (s 0)) hf (show x < 4096 by omega) (fun w _ z => by have := (LJ_mem.mp z).1; omega) v hv
        simp only [LJ]
        rw [if_pos c]
        exact this
  exact key (2 ^ s 0) 0 f _ _ (by omega) (fun v hv => by rw [hf v (by omega)]; rfl) (fun q hq => by omega)
/-- the sets D in lists by their gain, joys never ascending -/
def gsP (s : Nat → Nat) (D : Nat → Prop) (G : Nat → List Nat) : Prop := ∀ v, v ≤ 1188 → (G v).Nodup ∧ (∀ q, q ∈ G v ↔ D q ∧ v = sm s 1 q (s 0)) ∧ List.Pairwise (fun a b => sm s 2 b (s 0) ≤ sm s 2 a (s 0)) (G v)
theorem gsP_iff {s : Nat → Nat} {D E : Nat → Prop} {G : Nat → List Nat} (h : gsP s D G) (e : ∀ q, D q ↔ E q) : gsP s E G := by
  have : D = E := funext fun q => propext (e q)
  rw [← this]
  exact h
theorem gsP_put {s : Nat → Nat} {D : Nat → Prop} {G : Nat → List Nat} {q : Nat} (h : gsP s D G) (hn : ¬ D q) (hj : ∀ p, D p → sm s 2 p (s 0) ≤ sm s 2 q (s 0)) : gsP s (fun p => D p ∨ p = q) (fun w => if w = sm s 1 q (s 0) then q :: G w else G w) := by
  intro v hv
  obtain ⟨h1, h2, h3⟩ := h v hv
  show (if v = sm s 1 q (s 0) then q :: G v else G v).Nodup ∧ (∀ p, p ∈ (if v = sm s 1 q (s 0) then q :: G v else G v) ↔ (D p ∨ p = q) ∧ v = sm s 1 p (s 0)) ∧ List.Pairwise (fun a b => sm s 2 b (s 0) ≤ sm s 2 a (s 0)) (if v = sm s 1 q (s 0) then q :: G v else G v)
  by_cases e : v = sm s 1 q (s 0)
  · rw [if_pos e]
    refine ⟨List.nodup_cons.mpr ⟨fun z => hn ((h2 q).mp z).1, h1⟩, fun p => ?_, List.pairwise_cons.mpr ⟨fun p hp => hj p ((h2 p).mp hp).1, h3⟩⟩
    rw [List.mem_cons, h2 p]
    constructor
    · rintro (z | z)
      · exact ⟨Or.inr z, by rw [z]; exact e⟩
      · exact ⟨Or.inl z.1, z.2⟩
    · rintro ⟨z | z, z2⟩
      · exact Or.inr ⟨z, z2⟩
      · exact Or.inl z
  · rw [if_neg e]
    refine ⟨h1, fun p => ?_, h3⟩
    rw [h2 p]
    constructor
    · rintro ⟨z, z2⟩
      exact ⟨Or.inl z, z2⟩
    · rintro ⟨z | z, z2⟩
      · exact ⟨z, z2⟩
      · rw [z] at z2; exact absurd z2 e
theorem sl_gain27 {s : Nat → Nat} (hW : WF s) {t_firstOfJoy : Nat → Int32} {t1_gain : Nat → Int32} {t_nextOfJoy : Nat → Int32} {x2 : Int32} {k71 : (Nat → Int32) → (Nat → Int32) → Prop} {Q : (Nat → Int32) → (Nat → Int32) → Prop} (hg : ∀ q, q < 2 ^ s 0 → t1_gain q = iI (sm s 1 q (s 0) : Nat)) {J : Nat} :
    ∀ (l : List Nat) (D : Nat → Prop) (G : Nat → List Nat) (i : Nat) (h : Int32) (f nx : Nat → Int32), l.Nodup → (∀ q, q ∈ l → ¬ D q ∧ q < 2 ^ s 0 ∧ J = sm s 2 q (s 0)) → (∀ p, D p → sm s 2 p (s 0) ≤ J) → lkP t_nextOfJoy h l → i + l.length ≤ 4096 → lsP f nx G → gsP s D G → (∀ f nx G2, lsP f nx G2 → gsP s (fun p => D p ∨ p ∈ l) G2 → k71 f nx) → wp_X3_sortByGain_L27 t_firstOfJoy t1_gain t_nextOfJoy x2 k71 Q (l.length + 1) h (iI (i : Nat)) f nx := by
  have hp := wf_pow hW
  intro l
  induction l with
  | nil =>
    intro D G i h f nx hd hm hD hk hi hf hG hQ
    have ans := hQ f nx G hf (gsP_iff hG fun q => ⟨Or.inl, fun z => z.resolve_right List.not_mem_nil⟩)
    show wp_X3_sortByGain_L27 t_firstOfJoy t1_gain t_nextOfJoy x2 k71 Q (0 + 1) h (iI (i : Nat)) f nx
    unfold wp_X3_sortByGain_L27
    exact ⟨fun _ => ans, fun _ => ⟨fun _ => ans, fun z => absurd hk z⟩⟩
  | cons q l ih =>
    intro D G i h f nx hd hm hD hk hi hf hG hQ
    obtain ⟨k1, k2, k3⟩ := hk
    obtain ⟨m1, m2, m3⟩ := hm q List.mem_cons_self
    have nd := List.nodup_cons.mp hd
    rw [List.length_cons] at hi ⊢
    unfold wp_X3_sortByGain_L27
    have e1 : (4096 : Int32) ≤ iI (i : Nat) ↔ ((4096 : Nat) : Int) ≤ (i : Int) := by rw [iI_lit 4096, iI_le (by omega) (by omega) (by omega) (by omega)]
    have hg2 : sm s 1 q (s 0) ≤ 1188 := sm_bd hW (by omega) q
    rw [e1, k1, iI_clN (by omega), hg q m2, iI_s1]
    refine ⟨fun z => by omega, fun _ => ⟨fun z => absurd z (iI_nm1 (by omega)), fun _ => ⟨in_lit (by omega) (by omega), sp_putAhead k2 hg2 ⟨in_lit (by omega) (by omega), fun v hv => ?_⟩⟩⟩⟩
    subst hv
    refine ih (fun p => D p ∨ p = q) (fun w => if w = sm s 1 q (s 0) then q :: G w else G w) (i + 1) _ _ _ nd.2 (fun p hp => ?_) (fun p hp => ?_) k3 (by omega) (lsP_put hf k2 (fun w hw z => m1 (((hG w hw).2.1 q).mp z).1)) (gsP_put hG m1 fun p hp => by rw [← m3]; exact hD p hp) (fun f nx G2 a b => hQ f nx G2 a (gsP_iff b fun p => ?_))
    · obtain ⟨n1, n2, n3⟩ := hm p (List.mem_cons_of_mem _ hp)
      refine ⟨fun z => ?_, n2, n3⟩
      rcases z with z | z
      · exact n1 z
      · rw [z] at hp; exact nd.1 hp
    · rcases hp with z | z
      · exact hD p z
      · rw [z, m3]; exact Nat.le_refl _
    · rw [List.mem_cons]
      exact or_assoc
abbrev okA (s : Nat → Nat) (q : Nat) : Prop := q < 2 ^ s 0 ∧ rf s (s 1) q = 0
theorem sp_sortByGain {s : Nat → Nat} (hW : WF s) {t_firstOfGain : Nat → Int32} {t_firstOfJoy : Nat → Int32} {t1_gain : Nat → Int32} {t_nextOfGain : Nat → Int32} {t_nextOfJoy : Nat → Int32} {Q : (Nat → Int32) → (Nat → Int32) → Prop} (hg : ∀ q, q < 2 ^ s 0 → t1_gain q = iI (sm s 1 q (s 0) : Nat)) (hJ : lsP t_firstOfJoy t_nextOfJoy (LJ s (2 ^ s 0))) (hQ : ∀ f nx G, lsP f nx G → gsP s (okA s) G → Q f nx) : wp_X3_sortByGain t_firstOfGain t_firstOfJoy t1_gain t_nextOfGain t_nextOfJoy Q := by
  have hp := wf_pow hW
  unfold wp_X3_sortByGain
  refine sp_fill fun f hf => ⟨1189 + 1, ?_⟩
  have key : ∀ (d x : Nat) (f nx : Nat → Int32) (G : Nat → List Nat), x + d = 1189 → lsP f nx G → gsP s (fun q => okA s q ∧ sm s 2 q (s 0) < x) G → wp_X3_sortByGain_L10 t_firstOfJoy t1_gain t_nextOfJoy Q (d + 1) (iI (x : Nat)) f nx := by
    intro d
    induction d with
    | zero =>
      intro x f nx G hx hf hG
      unfold wp_X3_sortByGain_L10
      obtain rfl : x = 1189 := by omega
      refine ⟨fun _ => hQ f nx G hf (gsP_iff hG fun q => ⟨fun z => z.1, fun z => ⟨z, ?_⟩⟩), fun c => absurd (Int32.le_refl _) c⟩
      have : sm s 2 q (s 0) ≤ 1188 := sm_bd hW (by omega) q
      omega
    | succ d ih =>
      intro x f nx G hx hf hG
      unfold wp_X3_sortByGain_L10
      rw [iI_lit 1189, iI_le (by omega) (by omega) (by omega) (by omega), iI_clN (by omega), iI_s1]
      refine ⟨fun z => by omega, fun _ => ⟨in_lit (by omega) (by omega), fun v hv => ⟨(LJ s (2 ^ s 0) x).length + 1, ?_⟩⟩⟩
      have ln := nd_len (2 ^ s 0) (LJ s (2 ^ s 0) x) LJ_nd (fun q hq => (LJ_mem.mp hq).1)
      refine sl_gain27 hW hg (J := x) (LJ s (2 ^ s 0) x) _ G 0 v f nx LJ_nd (fun q hq => ?_) (fun p hp => by omega) (by rw [hv]; exact hJ x (by omega)) (by omega) hf hG (fun f nx G2 a b => ih (x + 1) f nx G2 (by omega) a (gsP_iff b fun p => ?_))
      · obtain ⟨a, b, c⟩ := LJ_mem.mp hq
        exact ⟨fun z => by omega, a, c⟩
      · rw [LJ_mem]
        constructor
        · rintro (⟨z1, z2⟩ | ⟨z1, z2, z3⟩)
          · exact ⟨z1, by omega⟩
          · exact ⟨⟨z1, z2⟩, by omega⟩
        · rintro ⟨⟨z1, z2⟩, z3⟩
          by_cases c : sm s 2 p (s 0) < x
          · exact Or.inl ⟨⟨z1, z2⟩, c⟩
          · exact Or.inr ⟨z1, z2, by omega⟩
  exact key 1189 0 f _ (fun _ => []) (by omega) (fun v hv => by rw [hf v (by omega)]; rfl) (fun v hv => ⟨List.nodup_nil, fun q => ⟨fun z => absurd z List.not_mem_nil, fun z => by omega⟩, List.Pairwise.nil⟩)
