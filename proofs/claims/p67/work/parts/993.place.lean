/-! LAYERS OF THE CLASS: placing a gain's sets -/
theorem sp_flb {c : Nat} (hc : c ≤ 2377) {t : Nat → Int} (hm : ∀ i j, i < j → j < c → t j ≤ t i) {top : Nat → Int32} (ht : ∀ i, i < c → top i = iI (t i) ∧ 0 ≤ t i ∧ t i ≤ 1188) {j : Int} (hj : 0 ≤ j ∧ j ≤ 1188) {Q : Int32 → Prop} (hQ : Q (iI (fbl t j c : Nat))) : wp_X3_firstLayerBelow (iI j) (iI (c : Nat)) top Q := by
  have key : ∀ (d lo hi i : Nat), lo ≤ hi → hi ≤ c → hi - lo ≤ d → d + i ≤ c → (∀ k, k < lo → j ≤ t k) → (∀ k, hi ≤ k → k < c → t k < j) → wp_X3_firstLayerBelow_L10 (iI (c : Nat)) top (iI j) Q (d + 1) (iI (lo : Nat)) (iI (hi : Nat)) (iI (i : Nat)) := by
    intro d
    induction d with
    | zero =>
      intro lo hi i h1 h2 h3 h4 h5 h6
      obtain rfl : lo = hi := by omega
      have e : fbl t j c = lo := fbl_eq h2 h5 (fun z => h6 lo (Nat.le_refl _) z)
      rw [e] at hQ
      unfold wp_X3_firstLayerBelow_L10
      exact ⟨fun _ => hQ, fun _ => ⟨fun _ => hQ, fun z => absurd (Int32.le_refl _) z⟩⟩
    | succ d ih =>
      intro lo hi i h1 h2 h3 h4 h5 h6
      unfold wp_X3_firstLayerBelow_L10
      rw [iI_lit 2378, iI_le (by omega) (by omega) (by omega) (by omega), iI_le (by omega) (by omega) (by omega) (by omega), iI_s1]
      refine ⟨fun z => by omega, fun _ => ⟨fun z => ?_, fun z v hv => ?_⟩⟩
      · obtain rfl : lo = hi := by omega
        have e : fbl t j c = lo := fbl_eq h2 h5 (fun z => h6 lo (Nat.le_refl _) z)
        rw [e] at hQ
        exact hQ
      · have ev : v = iI ((lo + (hi - lo) / 2 : Nat) : Int) := by
          rw [hv, iI_sub, show (hi : Int) - (lo : Int) = ((hi - lo : Nat) : Int) by omega, show (2 : Int32) = iI ((2 : Nat) : Int) from rfl, iI_divN (by omega) (by omega) (by omega), iI_add]
          congr 1
        subst ev
        have m1 : lo ≤ lo + (hi - lo) / 2 := by omega
        have m2 : lo + (hi - lo) / 2 < hi := by omega
        have m3 : hi - (lo + (hi - lo) / 2 + 1) ≤ d := by omega
        have m4 : lo + (hi - lo) / 2 - lo ≤ d := by omega
        generalize lo + (hi - lo) / 2 = m at m1 m2 m3 m4
        have tm := ht m (by omega)
        rw [iI_clN (by omega), tm.1, iI_lt (by omega) (by omega) (by omega) (by omega)]
        refine ⟨in_lit (by omega) (by omega), fun z2 => ?_, fun z2 v hv => ?_⟩
        · refine ih lo m (i + 1) m1 (by omega) m4 (by omega) h5 fun k k1 k2 => ?_
          by_cases e : k = m
          · rw [e]; exact z2
          · have := hm m k (by omega) k2
            omega
        · rw [hv, iI_s1]
          refine ih (m + 1) hi (i + 1) m2 h2 m3 (by omega) (fun k k1 => ?_) h6
          by_cases e : k = m
          · rw [e]; omega
          · have := hm k m (by omega) (by omega)
            omega
  unfold wp_X3_firstLayerBelow
  exact ⟨c + 1, key c 0 c 0 (by omega) (Nat.le_refl _) (by omega) (by omega) (fun k hk => by omega) (fun k k1 k2 => by omega)⟩
/-- the class's rows of layers, the keys from 4000000 - d on having come -/
def plP (P : Int → Prop) (d : Nat) (count : Int32) (top size : Nat → Int32) : Prop := count = iI ((lrun P d).1 : Nat) ∧ ∀ i, i < (lrun P d).1 → top i = iI ((lrun P d).2.1 i) ∧ size i = iI (lsz P d i : Nat)
theorem sp_placePair {P : Int → Prop} (hP : prg P) {d : Nat} {w : Int} (hw : P w) (hd : (d : Int) ≤ 3999999 - w) (hg : ∀ v, P v → w < v → 4000000 - (d : Int) ≤ v) {count : Int32} {top size : Nat → Int32} (h : plP P d count top size) {Q : Int32 → Int32 → (Nat → Int32) → (Nat → Int32) → Prop} (hQ : ∀ c t z, plP P (4000000 - w).toNat c t z → Q (iI (LYR P w : Nat)) c t z) : wp_X3_placePair (iI (w % 2048)) count top size Q := by
  obtain ⟨w0, w1, w2, w3⟩ := hP w hw
  obtain ⟨h1, h2⟩ := h
  have g := gapP (d := d) (d2 := (3999999 - w).toNat) (P := P) (fun v pv hv => hg v pv (by omega)) (by omega)
  have ok := lrun_ok hP d
  have cc := lOK_cnt ok
  have cc2 := lOK_cnt (lrun_ok hP (4000000 - w).toNat)
  have e2 := lrun_at ⟨w0, w1⟩ hw
  have eL : LYR P w = fbl (lrun P d).2.1 (w % 2048) (lrun P d).1 := by unfold LYR; rw [g.1]
  rw [g.1] at e2
  have l := fbl_le (t := (lrun P d).2.1) (j := w % 2048) (lrun P d).1
  have e3 : (lrun P (4000000 - w).toNat).1 = (if LYR P w = (lrun P d).1 then (lrun P d).1 + 1 else (lrun P d).1) := by rw [e2, eL]; rfl
  have e4 : (lrun P (4000000 - w).toNat).2.1 = ui (lrun P d).2.1 (LYR P w) (w % 2048) := by rw [e2, eL]; rfl
  rw [← eL] at l
  have sz : ∀ k, lsz P (4000000 - w).toNat k = if LYR P w = k then lsz P d k + 1 else lsz P d k := fun k => by rw [lsz_at ⟨w0, w1⟩ hw, g.2 k]
  have zz := lsz_z (P := P) (d := d) (k := (lrun P d).1) (by omega) (Nat.le_refl _)
  unfold wp_X3_placePair
  rw [h1]
  refine sp_flb cc ok.1 (fun i hi => ⟨(h2 i hi).1, (ok.2 i hi).1, (ok.2 i hi).2.1⟩) (by omega) ?_
  rw [← eL]
  generalize LYR P w = L at e3 e4 l sz hQ
  generalize (lrun P d).1 = c at e3 l zz h2 cc
  generalize (lrun P d).2.1 = tt at e4 h2
  have fin : ∀ zs : Nat → Int32, zs L = iI (lsz P d L : Nat) → (∀ i, i < c → i ≠ L → zs i = iI (lsz P d i : Nat)) → wp_X3_placePair_b40 Q (iI (w % 2048)) (iI (L : Nat)) (iI ((if L = c then c + 1 else c : Nat) : Int)) top zs := by
    intro zs a b
    unfold wp_X3_placePair_b40
    rw [iI_clN (by omega)]
    refine ⟨in_lit (by omega) (by omega), in_lit (by omega) (by omega), in_lit (by omega) (by omega), hQ _ _ _ ⟨by rw [e3], fun i hi => ?_⟩⟩
    rw [e3] at hi
    rw [e4, sz]
    by_cases q : i = L
    · rw [q, pk_us, pk_us, ui_s, if_pos rfl, a, iI_s1]
      exact ⟨rfl, rfl⟩
    · have hi2 : i < c := by split at hi <;> omega
      rw [pk_un q, pk_un q, ui_n q, if_neg (fun z => q z.symm), b i hi2 q]
      exact ⟨(h2 i hi2).1, rfl⟩
  rw [iI_lit 2378, iI_lt (by omega) (by omega) (by omega) (by omega), iI_eq (by omega) (by omega) (by omega) (by omega), iI_clN (by omega), iI_s1]
  refine ⟨fun _ => ⟨fun z => ?_, fun z => ⟨in_lit (by omega) (by omega), ?_⟩⟩, fun z => by omega⟩
  · have := fin size (h2 L (by omega)).2 (fun i hi _ => (h2 i hi).2)
    rw [if_neg (by omega)] at this
    exact this
  · have z2 : L = c := by omega
    have := fin (upd size L 0) (by rw [pk_us, z2, zz]; rfl) (fun i hi n => by rw [pk_un n]; exact (h2 i hi).2)
    rw [if_pos z2] at this
    exact this
def lyI (s : Nat → Nat) (g : Nat) (l : List Nat) (ly : Nat → Int32) : Prop := ∀ q, q < 2 ^ s 0 → (rf s (s 1) q ≠ 0 → ly q = -1) ∧ (rf s (s 1) q = 0 → (g < sm s 1 q (s 0) ∨ g = sm s 1 q (s 0) ∧ q ∉ l) → ly q = iI (LYR (HAS s) (kyP s q) : Nat))
theorem sl_gain16 {s : Nat → Nat} (hW : WF s) {t_firstOfGain : Nat → Int32} {t1_joy : Nat → Int32} {t_nextOfGain : Nat → Int32} {Q : Int32 → (Nat → Int32) → (Nat → Int32) → (Nat → Int32) → Prop} (hj : ∀ q, q < 2 ^ s 0 → t1_joy q = iI (sm s 2 q (s 0) : Nat)) {g : Nat} (hQ : ∀ (d : Nat) c t z ly, (d : Int) ≤ 4000000 → 2048 * (g : Int) ≤ 4000000 - (d : Int) → plP (HAS s) d c t z → (∀ w, HAS s w → 2048 * (g : Int) ≤ w → 4000000 - (d : Int) ≤ w) → lyI s g [] ly → Q c t z ly) :
    ∀ (l : List Nat) (d i : Nat) (h x4 x5 c : Int32) (t z ly : Nat → Int32), (∀ q, q ∈ l → okA s q ∧ g = sm s 1 q (s 0)) → List.Pairwise (fun a b => sm s 2 b (s 0) ≤ sm s 2 a (s 0)) l → lkP t_nextOfGain h l → i + l.length ≤ 4096 → (d : Int) ≤ 4000000 → 2048 * (g : Int) ≤ 4000000 - (d : Int) → plP (HAS s) d c t z → (∀ w, HAS s w → (g : Int) < w / 2048 → 4000000 - (d : Int) ≤ w) → (∀ w, HAS s w → w / 2048 = (g : Int) → w < 4000000 - (d : Int) → ∃ q, q ∈ l ∧ kyP s q = w) → ((x4 = -1 ∧ ∀ q, q ∈ l → kyP s q < 4000000 - (d : Int)) ∨ (∃ b : Nat, b ≤ 1188 ∧ x4 = iI (b : Nat) ∧ 4000000 - (d : Int) = 2048 * (g : Int) + (b : Int) ∧ x5 = iI (LYR (HAS s) (2048 * (g : Int) + (b : Int)) : Nat) ∧ ∀ q, q ∈ l → sm s 2 q (s 0) ≤ b)) → lyI s g l ly → wp_X3_placeGain_L16 t_firstOfGain t1_joy t_nextOfGain Q (l.length + 1) h x4 x5 (iI (i : Nat)) c t z ly := by
  have hp := wf_pow hW
  have hP := prg_has hW
  intro l
  induction l with
  | nil =>
    intro d i h x4 x5 c t z ly hm hs hk hi hd hd2 hpl hB hA hC hly
    have ans := hQ d c t z ly hd hd2 hpl (fun w pw hw => by
      by_cases a : (g : Int) < w / 2048
      · exact hB w pw a
      · by_cases b : w < 4000000 - (d : Int)
        · obtain ⟨q, hq, -⟩ := hA w pw (by omega) b
          exact absurd hq List.not_mem_nil
        · omega) hly
    show wp_X3_placeGain_L16 t_firstOfGain t1_joy t_nextOfGain Q (0 + 1) h x4 x5 (iI (i : Nat)) c t z ly
    unfold wp_X3_placeGain_L16
    exact ⟨fun _ => ans, fun _ => ⟨fun _ => ans, fun z => absurd hk z⟩⟩
  | cons q l ih =>
    intro d i h x4 x5 c t z ly hm hs hk hi hd hd2 hpl hB hA hC hly
    obtain ⟨k1, k2, k3⟩ := hk
    obtain ⟨⟨m1, m2⟩, m3⟩ := hm q List.mem_cons_self
    have s1 := List.pairwise_cons.mp hs
    have jb : sm s 2 q (s 0) ≤ 1188 := sm_bd hW (by omega) q
    have kd : kyP s q = 2048 * (g : Int) + (sm s 2 q (s 0) : Int) := by unfold kyP; rw [← m3]
    have pq : HAS s (kyP s q) := ⟨q, m1, m2, rfl⟩
    have hm2 : ∀ p, p ∈ l → okA s p ∧ g = sm s 1 p (s 0) := fun p hp => hm p (List.mem_cons_of_mem _ hp)
    have kl : ∀ p, p ∈ l → kyP s p ≤ kyP s q := by
      intro p hp
      have a := s1.1 p hp
      have b := (hm2 p hp).2
      rw [kd]
      unfold kyP
      rw [← b]
      omega
    rw [List.length_cons] at hi ⊢
    have e1 : (4096 : Int32) ≤ iI (i : Nat) ↔ ((4096 : Nat) : Int) ≤ (i : Int) := by rw [iI_lit 4096, iI_le (by omega) (by omega) (by omega) (by omega)]
    -- the walk's last part
    have tail_ : ∀ (d2 : Nat) (c : Int32) (t z : Nat → Int32), (d2 : Int) ≤ 4000000 → 4000000 - (d2 : Int) = kyP s q → plP (HAS s) d2 c t z → (∀ w, HAS s w → (g : Int) < w / 2048 → 4000000 - (d2 : Int) ≤ w) → (∀ w, HAS s w → w / 2048 = (g : Int) → w < kyP s q → ∃ q, q ∈ l ∧ kyP s q = w) → wp_X3_placeGain_b56 t_firstOfGain t1_joy t_nextOfGain (fun z0 z1 z2 z3 z4 z5 z6 z7 => wp_X3_placeGain_L16 t_firstOfGain t1_joy t_nextOfGain Q (l.length + 1) z0 z1 z2 z3 z4 z5 z6 z7) Q (iI (q : Nat)) (iI (sm s 2 q (s 0) : Nat)) (iI (LYR (HAS s) (kyP s q) : Nat)) (iI (i : Nat)) c t z ly := by
      intro d2 c t z a1 a2 a3 a4 a5
      unfold wp_X3_placeGain_b56
      rw [iI_clN (by omega), iI_s1]
      refine ⟨in_lit (by omega) (by omega), in_lit (by omega) (by omega), fun v hv => ?_⟩
      subst hv
      refine ih d2 (i + 1) _ _ _ c t z _ hm2 s1.2 k3 (by omega) a1 (by omega) a3 a4 (fun w pw e lt => a5 w pw e (by omega)) (Or.inr ⟨sm s 2 q (s 0), jb, rfl, by omega, by rw [kd], fun p hp => s1.1 p hp⟩) (fun p hp => ?_)
      obtain ⟨b1, b2⟩ := hly p hp
      by_cases e : p = q
      · rw [e, pk_us]
        exact ⟨fun n => absurd m2 n, fun _ _ => rfl⟩
      · rw [pk_un e]
        refine ⟨b1, fun r o => b2 r ?_⟩
        rcases o with o | ⟨o, n⟩
        · exact Or.inl o
        · refine Or.inr ⟨o, fun y => ?_⟩
          rcases List.mem_cons.mp y with y | y
          · exact e y
          · exact n y
    unfold wp_X3_placeGain_L16
    rw [e1, k1, iI_clN (by omega), hj q m1]
    refine ⟨fun z => by omega, fun _ => ⟨fun z => absurd z (iI_nm1 (by omega)), fun _ => ⟨in_lit (by omega) (by omega), fun y => ?_, fun y => ⟨in_lit (by omega) (by omega), fun v hv => ?_⟩⟩⟩⟩
    · rcases hC with ⟨c1, c2⟩ | ⟨b, c1, c2, c3, c4, c5⟩
      · rw [c1] at y
        exact absurd y (iI_nm1 (by omega))
      · rw [c2, iI_eq (by omega) (by omega) (by omega) (by omega)] at y
        have y2 : b = sm s 2 q (s 0) := by omega
        subst y2
        rw [← kd] at c3 c4
        rw [c2, c4]
        refine tail_ d c t z hd c3 hpl hB (fun w pw e lt => ?_)
        obtain ⟨p, hp, ep⟩ := hA w pw e (by omega)
        rcases List.mem_cons.mp hp with f | f
        · rw [f] at ep; omega
        · exact ⟨p, f, ep⟩
    · have lt : kyP s q < 4000000 - (d : Int) := by
        rcases hC with ⟨c1, c2⟩ | ⟨b, c1, c2, c3, c4, c5⟩
        · exact c2 q List.mem_cons_self
        · have := c5 q List.mem_cons_self
          rw [c2, iI_eq (by omega) (by omega) (by omega) (by omega)] at y
          omega
      have ky := kyP_rng hW q
      have ev : v = iI (kyP s q % 2048) := by
        rw [hv]
        congr 1
        omega
      have tl := tail_ (4000000 - kyP s q).toNat
      rw [ev]
      refine sp_placePair hP pq (d := d) (by omega) (fun w pw hw => ?_) hpl fun c t z hpl2 => ?_
      · by_cases a : (g : Int) < w / 2048
        · exact hB w pw a
        · by_cases b : w < 4000000 - (d : Int)
          · obtain ⟨p, hp, ep⟩ := hA w pw (by omega) b
            rcases List.mem_cons.mp hp with f | f
            · rw [f] at ep; omega
            · have := kl p f; omega
          · omega
      · have e5 : kyP s q % 2048 = (sm s 2 q (s 0) : Int) := by omega
        rw [e5]
        refine tl c t z (by omega) (by omega) hpl2 (fun w pw e => ?_) (fun w pw e lt2 => ?_)
        · have := hB w pw e; omega
        · obtain ⟨p, hp, ep⟩ := hA w pw e (by omega)
          rcases List.mem_cons.mp hp with f | f
          · rw [f] at ep; omega
          · exact ⟨p, f, ep⟩
theorem sp_placeGain {s : Nat → Nat} (hW : WF s) {t_count : Int32} {t_firstOfGain : Nat → Int32} {t1_joy : Nat → Int32} {t_topJoy : Nat → Int32} {t_size : Nat → Int32} {t_layer : Nat → Int32} {t_nextOfGain : Nat → Int32} {Q : Int32 → (Nat → Int32) → (Nat → Int32) → (Nat → Int32) → Prop} (hj : ∀ q, q < 2 ^ s 0 → t1_joy q = iI (sm s 2 q (s 0) : Nat)) {G : Nat → List Nat} (hG : gsP s (okA s) G) (hf : lsP t_firstOfGain t_nextOfGain G) {g d : Nat} (h1 : g ≤ 1188) (h2 : (d : Int) ≤ 4000000) (h3 : 2048 * ((g : Int) + 1) ≤ 4000000 - (d : Int)) (h4 : plP (HAS s) d t_count t_topJoy t_size) (h5 : ∀ w, HAS s w → 2048 * ((g : Int) + 1) ≤ w → 4000000 - (d : Int) ≤ w) (h6 : lyI s (g + 1) [] t_layer) (hQ : ∀ (d : Nat) c t z ly, (d : Int) ≤ 4000000 → 2048 * (g : Int) ≤ 4000000 - (d : Int) → plP (HAS s) d c t z → (∀ w, HAS s w → 2048 * (g : Int) ≤ w → 4000000 - (d : Int) ≤ w) → lyI s g [] ly → Q c t z ly) : wp_X3_placeGain (iI (g:Nat)) t_count t_firstOfGain t1_joy t_topJoy t_size t_layer t_nextOfGain Q := by
  have hp := wf_pow hW
  obtain ⟨g1, g2, g3⟩ := hG g h1
  have ln := nd_len (2 ^ s 0) (G g) g1 (fun q hq => ((g2 q).mp hq).1.1)
  unfold wp_X3_placeGain
  rw [iI_clN (by omega)]
  refine ⟨in_lit (by omega) (by omega), fun v hv => ⟨(G g).length + 1, ?_⟩⟩
  subst hv
  refine sl_gain16 hW hj hQ (G g) d 0 _ _ _ _ _ _ _ (fun q hq => (g2 q).mp hq) g3 (hf g h1) (by omega) h2 (by omega) h4 (fun w pw e => h5 w pw (by omega)) (fun w pw e lt => ?_) (Or.inl ⟨rfl, fun q hq => ?_⟩) (fun q hq => ⟨(h6 q hq).1, fun r o => ?_⟩)
  · obtain ⟨q, q1, q2, q3⟩ := pw
    refine ⟨q, (g2 q).mpr ⟨⟨q1, q2⟩, ?_⟩, q3⟩
    have jb : sm s 2 q (s 0) ≤ 1188 := sm_bd hW (by omega) q
    unfold kyP at q3
    omega
  · have jb : sm s 2 q (s 0) ≤ 1188 := sm_bd hW (by omega) q
    have := ((g2 q).mp hq).2
    unfold kyP
    omega
  · refine (h6 q hq).2 r ?_
    rcases o with o | ⟨o, n⟩
    · by_cases e : g + 1 = sm s 1 q (s 0)
      · exact Or.inr ⟨e, List.not_mem_nil⟩
      · exact Or.inl (by omega)
    · exact absurd ((g2 q).mpr ⟨⟨hq, r⟩, o⟩) n
/-- the class's layers -/
def lyP (s : Nat → Nat) (count : Int32) (layer size : Nat → Int32) : Prop := count = iI (LC s : Nat) ∧ (∀ k, k < LC s → size k = iI (lsz (HAS s) 4000000 k : Nat)) ∧ ∀ q, q < 2 ^ s 0 → layer q = if rf s (s 1) q = 0 then iI (LYR (HAS s) (kyP s q) : Nat) else -1
theorem sp_layBuild {s : Nat → Nat} (hW : WF s) {p2 : Int32} {t_count : Int32} {t_firstOfJoy : Nat → Int32} {t1_sets : Int32} {t1_limit : Int32} {t1_mustSet : Int32} {t1_neverSet : Int32} {t_layer : Nat → Int32} {t1_weight : Nat → Int32} {t1_barred : Nat → Int32} {t1_needed : Nat → Int32} {t1_joy : Nat → Int32} {t_nextOfJoy : Nat → Int32} {t_firstOfGain : Nat → Int32} {t1_gain : Nat → Int32} {t_nextOfGain : Nat → Int32} {t_topJoy : Nat → Int32} {t_size : Nat → Int32} {Q : Int32 → (Nat → Int32) → (Nat → Int32) → (Nat → Int32) → (Nat → Int32) → (Nat → Int32) → (Nat → Int32) → (Nat → Int32) → Prop} (hc : p2 = iI (s 1)) (hP : chP s t1_sets t1_limit t1_mustSet t1_neverSet t1_weight t1_gain t1_joy t1_barred t1_needed) (hQ : ∀ c fj ly nj fg ng tj sz, lyP s c ly sz → Q c fj ly nj fg ng tj sz) : wp_X3_build p2 t_count t_firstOfJoy t1_sets t1_limit t1_mustSet t1_neverSet t_layer t1_weight t1_barred t1_needed t1_joy t_nextOfJoy t_firstOfGain t1_gain t_nextOfGain t_topJoy t_size Q := by
  have hP2 := prg_has hW
  obtain ⟨p1, p2_, p3, p4, p5, p6, p7, p8, p9⟩ := id hP
  unfold wp_X3_build
  refine sp_sortByJoy hW hc hP fun fj ly nj hJ hL => sp_sortByGain hW p6 hJ fun fg ng G hf hG => ⟨1189 + 1, ?_⟩
  have key : ∀ (n d : Nat) (c : Int32) (ly t z : Nat → Int32), n ≤ 1189 → (d : Int) ≤ 4000000 → 2048 * (n : Int) ≤ 4000000 - (d : Int) → plP (HAS s) d c t z → (∀ w, HAS s w → 2048 * (n : Int) ≤ w → 4000000 - (d : Int) ≤ w) → lyI s n [] ly → wp_X3_build_L20 t1_sets t1_limit t1_mustSet t1_neverSet t1_weight t1_barred t1_needed t1_joy t1_gain fj nj fg ng Q (n + 1) (iI ((n : Int) - 1)) c ly t z := by
    intro n
    induction n with
    | zero =>
      intro d c ly t z hn h2 h3 h4 h5 h6
      unfold wp_X3_build_L20
      refine ⟨fun _ => hQ _ _ _ _ _ _ _ _ ?_, fun z => absurd (by decide) z⟩
      have g := gapP (P := HAS s) (d := d) (d2 := 4000000) (fun w pw hw => h5 w pw (by have := (hP2 w pw).1; omega)) (by omega)
      obtain ⟨a, b⟩ := h4
      unfold lyP LC
      rw [g.1]
      refine ⟨a, fun k hk => ?_, fun q hq => ?_⟩
      · rw [g.2]; exact (b k hk).2
      · obtain ⟨c1, c2⟩ := h6 q hq
        by_cases r : rf s (s 1) q = 0
        · rw [if_pos r]
          refine c2 r ?_
          by_cases e : 0 = sm s 1 q (s 0)
          · exact Or.inr ⟨e, List.not_mem_nil⟩
          · exact Or.inl (by omega)
        · rw [if_neg r]
          exact c1 r
    | succ n ih =>
      intro d c ly t z hn h2 h3 h4 h5 h6
      unfold wp_X3_build_L20
      rw [show (((n + 1 : Nat) : Int) - 1) = (n : Int) by omega, iI_lit 0, iI_lt (by omega) (by omega) (by omega) (by omega), show (-1 : Int32) = iI (-1) from rfl, iI_add]
      refine ⟨fun z => by omega, fun _ => sp_placeGain hW p7 hG hf (by omega) h2 (by omega) h4 (fun w pw hw => h5 w pw (by omega)) h6 fun d c t z ly a1 a2 a3 a4 a5 => ?_⟩
      exact ih d c ly t z (by omega) a1 a2 a3 a4 a5
  have hk := key 1189 0 0 ly t_topJoy t_size (Nat.le_refl _) (by omega) (by omega) ⟨rfl, fun i hi => absurd hi (Nat.not_lt_zero _)⟩ (fun w pw hw => by have := hP2 w pw; omega) (fun q hq => ⟨fun _ => hL q hq, fun _ o => by
    have gb : sm s 1 q (s 0) ≤ 1188 := sm_bd hW (by omega) q
    omega⟩)
  exact hk
