/-! SHARE: two whole numbers divided give no NaN; STEP; the small answers -/
theorem fl_en {s : Bool} {c : Nat} {q : Int} (hc : c < 2 ^ 53) (hq1 : -1074 ≤ q) (hq2 : q ≤ 971) : ∃ e t : Nat, FP.Core.encode FP.Core.b64 (.fin s c q) = (s.toNat * 2048 + e) * 2 ^ 52 + t ∧ t < 2 ^ 52 ∧ e ≤ 2046 ∧ (c ≠ 0 → e = 0 → t ≠ 0) := by
  have ht : FP.Core.b64.tails = 2 ^ 52 := rfl
  have he : FP.Core.b64.exps = 2048 := rfl
  have hm : FP.Core.b64.qmin = -1074 := rfl
  simp only [FP.Core.encode, FP.Core.assemble, ht, he, hm]
  by_cases h : c < 2 ^ 52
  · rw [if_pos h]
    exact ⟨0, c, rfl, h, by omega, fun a _ => a⟩
  · rw [if_neg h]
    exact ⟨(q - -1074).toNat + 1, c - 2 ^ 52, rfl, by omega, by omega, fun _ z => by omega⟩
theorem fl_bits {s : Bool} {e t : Nat} (ht : t < 2 ^ 52) (he : e ≤ 2047) (h : e = 2047 → t = 0) : vf_n64 (UInt64.ofNat ((s.toNat * 2048 + e) * 2 ^ 52 + t)) := by
  have hs : s.toNat ≤ 1 := Bool.toNat_le s
  unfold vf_n64
  rw [UInt64.le_iff_toNat_le, UInt64.toNat_and]
  have h1 : (0x7fffffffffffffff : UInt64).toNat = 2 ^ 63 - 1 := by decide
  have h2 : (0x7ff0000000000000 : UInt64).toNat = 9218868437227405312 := by decide
  rw [h1, h2, Nat.and_two_pow_sub_one_eq_mod, UInt64.toNat_ofNat']
  omega
theorem fl_dec {n : Nat} {s : Bool} {e t : Nat} (hn : n = (s.toNat * 2048 + e) * 2 ^ 52 + t) (ht : t < 2 ^ 52) (he : e ≤ 2046) : ∃ c q, FP.Core.decode FP.Core.b64 n = .fin s c q ∧ ((e = 0 → t ≠ 0) → c ≠ 0) := by
  have hs : s.toNat ≤ 1 := Bool.toNat_le s
  have e1 : FP.Core.b64.tails = 2 ^ 52 := rfl
  have e2 : FP.Core.b64.exps = 2048 := rfl
  have fT : FP.Core.fieldT FP.Core.b64 n = t := by unfold FP.Core.fieldT; rw [e1, hn]; omega
  have fE : FP.Core.fieldE FP.Core.b64 n = e := by unfold FP.Core.fieldE; rw [e1, e2, hn]; omega
  have fS : FP.Core.fieldS FP.Core.b64 n = s := by
    unfold FP.Core.fieldS; rw [e1, e2, hn]
    have : ((s.toNat * 2048 + e) * 2 ^ 52 + t) / 2 ^ 52 / 2048 % 2 = s.toNat := by omega
    rw [this]
    cases s <;> rfl
  unfold FP.Core.decode
  rw [fT, fE, fS, e1, e2, if_neg (by omega)]
  by_cases h : e = 0
  · rw [if_pos h]; exact ⟨t, _, rfl, fun a => a h⟩
  · rw [if_neg h]; exact ⟨2 ^ 52 + t, _, rfl, fun _ => by omega⟩
theorem fl_lead (n : Nat) : FP.Core.leading n 1 ≤ (n.log2 : Int) := by
  unfold FP.Core.leading
  have : (1 : Nat).log2 = 0 := by decide
  simp only [this]
  split <;> omega
theorem fl_int {n : Nat} (hn : n < 5000) : ∃ c q, FP.Core.decode FP.Core.b64 (FP.i2d (iI (n : Nat))).toNat = .fin false c q ∧ (n ≠ 0 → c ≠ 0) := by
  have e1 : FP.Core.b64.tails = 2 ^ 52 := rfl
  have e3 : FP.Core.b64.qmin = -1074 := rfl
  have e4 : FP.Core.b64.qmax = 971 := rfl
  have key : ∃ c q, FP.Core.round FP.Core.b64 (FP.Core.ofInt (n : Int)) = .fin false c q ∧ c < 2 ^ 53 ∧ -1074 ≤ q ∧ q ≤ 971 ∧ (n ≠ 0 → c ≠ 0) := by
    unfold FP.Core.ofInt
    rw [show decide ((n : Int) < 0) = false from decide_eq_false (by omega), Int.natAbs_natCast]
    simp only [FP.Core.round, FP.Core.roundRatio]
    by_cases h : n = 0
    · rw [if_pos h]; exact ⟨0, _, rfl, by omega, by rw [e3]; omega, by rw [e3]; omega, fun z => absurd h z⟩
    · rw [if_neg h]
      have hl : n.log2 < 13 := (Nat.log2_lt h).mpr (by omega)
      have hq : ∃ q, FP.Core.quantum FP.Core.b64 n 1 0 = q ∧ -1074 ≤ q ∧ q ≤ 0 := by
        refine ⟨_, rfl, ?_⟩
        have := fl_lead n
        unfold FP.Core.quantum
        rw [e3, show (FP.Core.b64.p : Int) = 53 from rfl]
        omega
      obtain ⟨q, hq, q1, q2⟩ := hq
      rw [hq]
      unfold FP.Core.roundAt FP.Core.unitsNum FP.Core.unitsDen
      have hd : (1 : Nat) * 2 ^ (q - 0).toNat = 1 := by rw [show (q - 0).toNat = 0 by omega]
      rw [hd]
      have hN : FP.Core.nearest (n * 2 ^ (0 - q).toNat) 1 = n * 2 ^ (0 - q).toNat := by
        unfold FP.Core.nearest
        rw [Nat.mod_one, if_pos (by omega), Nat.div_one]
      rw [hN]
      have hp : 0 < n * 2 ^ (0 - q).toNat := Nat.mul_pos (by omega) (Nat.two_pow_pos _)
      unfold FP.Core.settle FP.Core.bound
      rw [e1, e4, show FP.Core.b64.p = 53 from rfl]
      split
      · rename_i c; rw [if_pos (by omega)]; exact ⟨_, _, rfl, c, q1, by omega, fun _ => by omega⟩
      · rw [if_pos (by omega)]; exact ⟨_, _, rfl, by omega, by omega, by omega, fun _ => by omega⟩
  obtain ⟨c, q, hr, hc, q1, q2, hz⟩ := key
  obtain ⟨e, t, he, ht, hle, hnz⟩ := fl_en (s := false) hc q1 q2
  have hb : (FP.i2d (iI (n : Nat))).toNat = (false.toNat * 2048 + e) * 2 ^ 52 + t := by
    show (UInt64.ofNat (FP.Core.fromInt FP.Core.b64 (iI (n : Nat)).toInt)).toNat = _
    unfold FP.Core.fromInt
    rw [iI_toInt (by omega) (by omega), hr, he, UInt64.toNat_ofNat']
    simp only [Bool.toNat_false]
    omega
  obtain ⟨c2, q2, hd, h2⟩ := fl_dec hb ht hle
  exact ⟨c2, q2, hd, fun z => h2 (hnz (hz z))⟩
theorem fl_div {n m : Nat} (hn : n < 5000) (hm : m < 5000) (h0 : m ≠ 0) : vf_n64 (FP.ddiv (FP.i2d (iI (n : Nat))) (FP.i2d (iI (m : Nat)))) := by
  have e1 : FP.Core.b64.tails = 2 ^ 52 := rfl
  have e2 : FP.Core.b64.exps = 2048 := rfl
  have e3 : FP.Core.b64.qmin = -1074 := rfl
  have e4 : FP.Core.b64.qmax = 971 := rfl
  obtain ⟨c, q, hc, -⟩ := fl_int hn
  obtain ⟨d, r, hd, hz⟩ := fl_int hm
  have hz := hz h0
  show vf_n64 (UInt64.ofNat (FP.Core.div FP.Core.b64 _ _))
  unfold FP.Core.div
  rw [hc, hd]
  simp only [FP.Core.quotient]
  rw [if_neg hz]
  unfold FP.Core.roundRatio
  have fin_ : ∀ (s : Bool) (c : Nat) (q : Int), c < 2 ^ 53 → -1074 ≤ q → q ≤ 971 → vf_n64 (UInt64.ofNat (FP.Core.encode FP.Core.b64 (.fin s c q))) := by
    intro s c q a1 a2 a3
    obtain ⟨e, t, he, ht, hle, -⟩ := fl_en (s := s) a1 a2 a3
    rw [he]
    exact fl_bits ht (by omega) (fun z => by omega)
  have inf_ : ∀ s : Bool, vf_n64 (UInt64.ofNat (FP.Core.encode FP.Core.b64 (.inf s))) := by
    intro s
    simp only [FP.Core.encode, FP.Core.assemble, e1, e2]
    exact fl_bits (t := 0) (e := 2047) (by omega) (by omega) (fun _ => rfl)
  split
  · exact fin_ _ _ _ (by omega) (by rw [e3]; omega) (by rw [e3]; omega)
  · unfold FP.Core.roundAt
    have hq : -1074 ≤ FP.Core.quantum FP.Core.b64 c d (q - r) := by unfold FP.Core.quantum; rw [e3]; omega
    generalize FP.Core.quantum FP.Core.b64 c d (q - r) = x at hq ⊢
    unfold FP.Core.settle FP.Core.bound
    rw [e1, e4, show FP.Core.b64.p = 53 from rfl]
    split
    · rename_i w
      split
      · exact fin_ _ _ _ w hq (by omega)
      · exact inf_ _
    · split
      · exact fin_ _ _ _ (by omega) (by omega) (by omega)
      · exact inf_ _
abbrev ALW (s : Nat → Nat) : Nat := fb_ct (okS s (s 1) 0) (2 ^ s 0)
def shv (s : Nat → Nat) : UInt64 := if ALW s = 0 then FP.dconst0 else FP.ddiv (FP.i2d (iI (PN (HH s) : Nat))) (FP.i2d (iI (ALW s : Nat)))
theorem sq_share {s : Nat → Nat} (hW : WF s) {hand : Int32} {t_frontierFresh : Int32} {t_now_items : Int32} {t_now_capacity : Int32} {t_now_limit : Int32} {t_now_mustSet : Int32} {t_now_neverSet : Int32} {t_choices_sets : Int32} {t_choices_limit : Int32} {t_choices_mustSet : Int32} {t_choices_neverSet : Int32} {t_choices_weight : Nat → Int32} {t_now_weight : Nat → Int32} {t_choices_gain : Nat → Int32} {t_now_gain : Nat → Int32} {t_choices_joy : Nat → Int32} {t_now_joy : Nat → Int32} {t_choices_barred : Nat → Int32} {t_now_bars : Nat → Int32} {t_choices_needed : Nat → Int32} {t_now_needs : Nat → Int32} {t_stairs_allowedCount : Int32} {t_stairs_joyAt : Nat → Int32} {t_frontier_size : Int32} {t_frontier_vertexCount : Int32} {t_frontier_allowedCount : Int32} {t_frontier_areaBelow : Int32} {t_frontier_pointAt : Nat → Int32} {t_frontier_gain : Nat → Int32} {t_frontier_joy : Nat → Int32} {t_frontier_choice : Nat → Int32} {t_frontier_times : Nat → Int32} {t_frontier_light : Nat → Int32} {t_frontier_mark : Nat → Int32} {t_frontier_vertexPoint : Nat → Int32} {Q : UInt64 → Int32 → Int32 → Int32 → Int32 → Int32 → (Nat → Int32) → (Nat → Int32) → (Nat → Int32) → (Nat → Int32) → (Nat → Int32) → Int32 → (Nat → Int32) → Int32 → Int32 → Int32 → Int32 → (Nat → Int32) → (Nat → Int32) → (Nat → Int32) → (Nat → Int32) → (Nat → Int32) → (Nat → Int32) → (Nat → Int32) → (Nat → Int32) → Prop} (hS : suP s t_now_items t_now_capacity t_now_limit t_now_mustSet t_now_neverSet hand t_now_weight t_now_gain t_now_joy t_now_bars t_now_needs) (hD : dkP s t_frontierFresh t_choices_sets t_choices_limit t_choices_mustSet t_choices_neverSet t_choices_weight t_choices_gain t_choices_joy t_choices_barred t_choices_needed t_frontier_size t_frontier_vertexCount t_frontier_allowedCount t_frontier_areaBelow t_frontier_pointAt t_frontier_gain t_frontier_joy t_frontier_choice t_frontier_times t_frontier_light t_frontier_mark t_frontier_vertexPoint) (hQ : DQ s (Q (shv s))) : wp_X10_share t_frontierFresh t_now_items t_now_capacity t_now_limit t_now_mustSet t_now_neverSet t_choices_sets t_choices_limit t_choices_mustSet t_choices_neverSet t_choices_weight t_now_weight t_choices_gain t_now_gain t_choices_joy t_now_joy t_choices_barred t_now_bars t_choices_needed t_now_needs t_stairs_allowedCount t_stairs_joyAt t_frontier_size t_frontier_vertexCount t_frontier_allowedCount t_frontier_areaBelow t_frontier_pointAt t_frontier_gain t_frontier_joy t_frontier_choice t_frontier_times t_frontier_light t_frontier_mark t_frontier_vertexPoint Q := by
  have hN := PN_le (HH s)
  have hp := wf_pow hW
  have hle : ALW s ≤ 2 ^ s 0 := fb_ct_le _ _
  unfold wp_X10_share
  refine sp_refresh hW hS hD fun sets lim must nev cw cg cj cb cn sac sja size vc ac area pa g j ch ti li mk vp hP hF => ?_
  have ans := hQ 1 sets lim must nev cw cg cj cb cn sac sja size vc ac area pa g j ch ti li mk vp (dkP_1 hP hF)
  have f1 := hF.1
  have f2 : ac = iI (ALW s : Nat) := hF.2.1
  subst f1
  subst f2
  have ez : (iI (ALW s : Nat) = 0) ↔ ALW s = 0 := by
    rw [iI_lit 0, iI_eq (by omega) (by omega) (by omega) (by omega)]
    omega
  rw [ez]
  unfold shv at ans
  refine ⟨fun c => ?_, fun c => ?_⟩
  · rw [if_neg c] at ans
    exact ⟨fl_div (by omega) (by omega) c, ans⟩
  · rw [if_pos c] at ans
    exact ans
