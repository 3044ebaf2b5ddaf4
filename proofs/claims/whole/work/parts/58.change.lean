/-! A SETUP WITH ANOTHER CAPACITY, OR WITH ONE MORE ITEM NEVER -/
def su (s : Nat → Nat) (k v : Nat) : Nat → Nat := fun i => if i = k then v else s i
theorem su_ne {s : Nat → Nat} {k v i : Nat} (h : i ≠ k) : su s k v i = s i := if_neg h
theorem su_eq {s : Nat → Nat} {k v : Nat} : su s k v k = v := if_pos rfl
theorem sm_su {s : Nat → Nat} {k v w q : Nat} (hk : k < 6) : ∀ n, sm (su s k v) w q n = sm s w q n
  | 0 => rfl
  | n + 1 => by
    simp only [sm]
    rw [sm_su hk n, su_ne (by omega)]
theorem ors_su {s : Nat → Nat} {k v w q : Nat} (hk : k < 6) : ∀ n, ors (su s k v) w q n = ors s w q n
  | 0 => rfl
  | n + 1 => by
    simp only [ors]
    rw [ors_su hk n, su_ne (by omega)]
theorem rf_su1 {s : Nat → Nat} {v cap q : Nat} : rf (su s 1 v) cap q = rf s cap q := by
  unfold rf rfb
  rw [su_ne (by omega), su_ne (by omega), su_ne (by omega), su_ne (by omega), sm_su (by omega), ors_su (by omega), ors_su (by omega)]
theorem ja_congr {ok ok' : Nat → Bool} {gn gn' jn jn' : Nat → Nat} : ∀ {m : Nat}, (∀ q, q < m → ok q = ok' q ∧ gn q = gn' q ∧ jn q = jn' q) → ∀ g, ja ok gn jn m g = ja ok' gn' jn' m g
  | 0, _, _ => rfl
  | m + 1, h, g => by
    obtain ⟨h1, h2, h3⟩ := h m (by omega)
    simp only [ja]
    rw [h1, h2, h3, ja_congr (m := m) (fun q hq => h q (by omega)) g]
theorem HS_su1 {s : Nat → Nat} {v cap wo : Nat} : HS (su s 1 v) cap wo = HS s cap wo := by
  unfold HS
  have e : JA (su s 1 v) cap wo = JA s cap wo := by
    funext g
    unfold JA
    rw [su_ne (show (0 : Nat) ≠ 1 by omega)]
    refine ja_congr (fun q _ => ⟨?_, ?_, ?_⟩) g
    · unfold okS; rw [rf_su1]
    · exact sm_su (by omega) _
    · exact sm_su (by omega) _
  rw [e]
theorem HH_su1 {s : Nat → Nat} {v : Nat} : HH (su s 1 v) = HS s v 0 := by
  unfold HH
  rw [su_eq, HS_su1]
theorem WF_su1 {s : Nat → Nat} (hW : WF s) {v : Nat} (hv : v ≤ 999) : WF (su s 1 v) := by
  obtain ⟨h0, h1, h2, h3, h4, h5, h6⟩ := hW
  refine ⟨by rw [su_ne (by omega)]; exact h0, by rw [su_eq]; exact hv, by rw [su_ne (by omega)]; exact h2, by rw [su_ne (by omega), su_ne (by omega)]; exact h3, by rw [su_ne (by omega), su_ne (by omega)]; exact h4, by rw [su_ne (by omega), su_ne (by omega)]; exact h5, fun k hk => ?_⟩
  rw [su_ne (show (0 : Nat) ≠ 1 by omega)] at hk
  rw [su_ne (by omega), su_ne (by omega), su_ne (by omega), su_ne (by omega), su_ne (by omega), su_ne (by omega)]
  exact h6 k hk
theorem neP_su {s : Nat → Nat} {row : Nat → Int32} (hN : neP s row) {k v : Nat} (hk : k < 6) (hk0 : k ≠ 0) {x : Int32} (hx : x = iI (v : Nat)) : neP (su s k v) (upd row k x) := by
  obtain ⟨h1, h2⟩ := hN
  refine ⟨fun i hi => ?_, fun i w hi hw => ?_⟩
  · by_cases e : i = k
    · rw [e, pk_us, su_eq]; exact hx
    · rw [pk_un e, su_ne e]; exact h1 i hi
  · rw [su_ne (show (0 : Nat) ≠ k from fun z => hk0 z.symm)] at hi
    rw [pk_un (by omega), su_ne (by omega)]
    exact h2 i w hi hw
theorem neP_ext {s s' : Nat → Nat} {row : Nat → Int32} (hN : neP s row) (h : ∀ i, s i = s' i) : neP s' row := by
  have : s = s' := funext h
  rw [← this]
  exact hN
/-- a place put back -/
theorem neP_back {s : Nat → Nat} {row : Nat → Int32} (hN : neP s row) {k : Nat} (hk : k < 6) {x y : Int32} (hy : y = row k) : neP s (upd (upd row k x) k y) := by
  obtain ⟨h1, h2⟩ := hN
  refine ⟨fun i hi => ?_, fun i w hi hw => ?_⟩
  · by_cases e : i = k
    · rw [e, pk_us, hy]; exact h1 k hk
    · rw [pk_un e, pk_un e]; exact h1 i hi
  · rw [pk_un (by omega), pk_un (by omega)]
    exact h2 i w hi hw
theorem sp_reqCap {p : Int32} {Q : Prop} {QX : String → Prop} (h1 : 0 ≤ p.toInt ∧ p.toInt ≤ 999 → Q) (h2 : ¬ (0 ≤ p.toInt ∧ p.toInt ≤ 999) → QX "java/lang/IllegalArgumentException") : wp_X10_requireCapacity p Q QX := by
  unfold wp_X10_requireCapacity
  rw [i_lt0, i_le, show (999 : Int32).toInt = 999 from by decide]
  exact ⟨fun c => h2 (by omega), fun c => ⟨fun d => h1 ⟨by omega, d⟩, fun d => h2 (by omega)⟩⟩
theorem sq_pointsWith {s : Nat → Nat} (hW : WF s) {hand : Int32} {p1 : Int32} {t_frontierFresh : Int32} {t_now_items : Int32} {t_now_capacity : Int32} {t_now_limit : Int32} {t_now_mustSet : Int32} {t_now_neverSet : Int32} {t_choices_sets : Int32} {t_choices_limit : Int32} {t_choices_mustSet : Int32} {t_choices_neverSet : Int32} {t_choices_weight : Nat → Int32} {t_now_weight : Nat → Int32} {t_choices_gain : Nat → Int32} {t_now_gain : Nat → Int32} {t_choices_joy : Nat → Int32} {t_now_joy : Nat → Int32} {t_choices_barred : Nat → Int32} {t_now_bars : Nat → Int32} {t_choices_needed : Nat → Int32} {t_now_needs : Nat → Int32} {t_stairs_allowedCount : Int32} {t_stairs_joyAt : Nat → Int32} {t_frontier_size : Int32} {t_frontier_vertexCount : Int32} {t_frontier_allowedCount : Int32} {t_frontier_areaBelow : Int32} {t_frontier_pointAt : Nat → Int32} {t_frontier_gain : Nat → Int32} {t_frontier_joy : Nat → Int32} {t_frontier_choice : Nat → Int32} {t_frontier_times : Nat → Int32} {t_frontier_light : Nat → Int32} {t_frontier_mark : Nat → Int32} {t_frontier_vertexPoint : Nat → Int32} {Q : Int32 → Int32 → Int32 → Int32 → Int32 → Int32 → (Nat → Int32) → (Nat → Int32) → (Nat → Int32) → (Nat → Int32) → (Nat → Int32) → Int32 → (Nat → Int32) → Int32 → Int32 → Int32 → Int32 → (Nat → Int32) → (Nat → Int32) → (Nat → Int32) → (Nat → Int32) → (Nat → Int32) → (Nat → Int32) → (Nat → Int32) → (Nat → Int32) → Prop} {QX : String → Int32 → Int32 → Int32 → Int32 → Int32 → (Nat → Int32) → (Nat → Int32) → (Nat → Int32) → (Nat → Int32) → (Nat → Int32) → Int32 → (Nat → Int32) → Int32 → Int32 → Int32 → Int32 → (Nat → Int32) → (Nat → Int32) → (Nat → Int32) → (Nat → Int32) → (Nat → Int32) → (Nat → Int32) → (Nat → Int32) → (Nat → Int32) → Prop} (hS : suP s t_now_items t_now_capacity t_now_limit t_now_mustSet t_now_neverSet hand t_now_weight t_now_gain t_now_joy t_now_bars t_now_needs) (hD : dkP s t_frontierFresh t_choices_sets t_choices_limit t_choices_mustSet t_choices_neverSet t_choices_weight t_choices_gain t_choices_joy t_choices_barred t_choices_needed t_frontier_size t_frontier_vertexCount t_frontier_allowedCount t_frontier_areaBelow t_frontier_pointAt t_frontier_gain t_frontier_joy t_frontier_choice t_frontier_times t_frontier_light t_frontier_mark t_frontier_vertexPoint) (hQ : 0 ≤ p1.toInt ∧ p1.toInt ≤ 999 → DQ s (Q (iI (PN (HS s p1.toInt.toNat 0) : Nat)))) (hX : ¬ (0 ≤ p1.toInt ∧ p1.toInt ≤ 999) → DQ s (QX "java/lang/IllegalArgumentException")) : wp_X10_pointsWith p1 t_frontierFresh t_now_items t_now_capacity t_now_limit t_now_mustSet t_now_neverSet t_choices_sets t_choices_limit t_choices_mustSet t_choices_neverSet t_choices_weight t_now_weight t_choices_gain t_now_gain t_choices_joy t_now_joy t_choices_barred t_now_bars t_choices_needed t_now_needs t_stairs_allowedCount t_stairs_joyAt t_frontier_size t_frontier_vertexCount t_frontier_allowedCount t_frontier_areaBelow t_frontier_pointAt t_frontier_gain t_frontier_joy t_frontier_choice t_frontier_times t_frontier_light t_frontier_mark t_frontier_vertexPoint Q QX := by
  unfold wp_X10_pointsWith
  refine sp_reqCap (fun h => sp_refresh hW hS hD fun sets lim must nev cw cg cj cb cn sac sja size vc ac area pa g j ch ti li mk vp hP hF => ?_) (fun h => hX h _ _ _ _ _ _ _ _ _ _ _ _ _ _ _ _ _ _ _ _ _ _ _ _ hD)
  have ep : p1 = iI (p1.toInt.toNat : Nat) := by rw [show ((p1.toInt.toNat : Nat) : Int) = p1.toInt by omega]; exact iI_of p1
  have := sp_stairs hW (cap := p1.toInt.toNat) (wo := 0) (by omega) (by omega) (t_allowedCount := sac) (t_joyAt := sja) hP (Q := fun (u18_25 : Int32) (u18_26 : Nat → Int32) => wp_X9_countCorners u18_26 (fun (r25 : Int32) => Q r25 1 sets lim must nev cw cg cj cb cn u18_25 u18_26 size vc ac area pa g j ch ti li mk vp)) (fun f hf => sp_countCorners (HS_stP hW p1.toInt.toNat 0) hf (hQ h 1 sets lim must nev cw cg cj cb cn _ _ size vc ac area pa g j ch ti li mk vp (dkP_1 hP hF)))
  rw [← ep, show iI ((0 : Nat) : Int) = (0 : Int32) from (iI_lit 0).symm] at this
  exact this
theorem sr_pointsWith {s : Nat → Nat} (hW : WF s) {p1 : Int32} {t_thrown : Int32} {t_allowedMany : Int32} {t_pointMany : Int32} {t_net : Nat → Int32} {t_joyAt : Nat → Int32} {t_pointAt : Nat → Int32} {t_pointGain : Nat → Int32} {t_pointJoy : Nat → Int32} {t_pointTimes : Nat → Int32} {Q : Int32 → Int32 → Int32 → Int32 → (Nat → Int32) → (Nat → Int32) → (Nat → Int32) → (Nat → Int32) → (Nat → Int32) → (Nat → Int32) → Prop} (hN : neP s t_net) (hQ : ∀ am pm net ja pa g j ti, neP s net → Q (if 0 ≤ p1.toInt ∧ p1.toInt ≤ 999 then iI (PN (HS s p1.toInt.toNat 0) : Nat) else 0) (if 0 ≤ p1.toInt ∧ p1.toInt ≤ 999 then 0 else 1) am pm net ja pa g j ti) : wp_X11_pointsWith p1 t_thrown t_allowedMany t_pointMany t_net t_joyAt t_pointAt t_pointGain t_pointJoy t_pointTimes Q := by
  unfold wp_X11_pointsWith
  refine sp_in0 (k := 999) rfl (sp_passes ?_)
  by_cases h : 0 ≤ p1.toInt ∧ p1.toInt ≤ 999
  · rw [if_pos h]
    simp only [if_pos h] at hQ
    have ep : p1 = iI (p1.toInt.toNat : Nat) := by rw [show ((p1.toInt.toNat : Nat) : Int) = p1.toInt by omega]; exact iI_of p1
    have hi : vp_in 1 66 := by rw [vp_in_iff]; decide
    have e1 : (1 : Int32).toNatClampNeg = 1 := by decide
    rw [e1]
    refine ⟨fun _ => ⟨hi, fun v hv => ⟨hi, ?_⟩⟩, fun z => absurd z (by decide)⟩
    refine sp_layP (s := su s 1 p1.toInt.toNat) (WF_su1 hW (by omega)) (neP_su hN (by omega) (by omega) ep) fun am pm ja pa g j ti hM hT => ⟨hi, ?_⟩
    have e2 : pm = iI (PN (HS s p1.toInt.toNat 0) : Nat) := by rw [hM.2.1, HH_su1]
    have := hQ am pm (upd (upd t_net 1 p1) 1 v) ja pa g j ti (neP_back hN (by omega) hv)
    rw [← e2] at this
    exact this
  · rw [if_neg h]
    simp only [if_neg h] at hQ
    exact ⟨fun z => absurd rfl z, fun _ => hQ _ _ _ _ _ _ _ _ hN⟩
