/-! THE LAW'S LAYERS -/
section
variable {s : Nat → Nat} {M : Nat} {G J : Nat → Nat} {a13 a19 a26 a33 a40 : Nat → Int32}
abbrev kyN (G J : Nat → Nat) (n : Nat) : Int := 2048 * (G n : Int) + (J n : Int)
noncomputable abbrev LL (s : Nat → Nat) (G J : Nat → Nat) (n : Nat) : Nat := LYR (HAS s) (kyN G J n)
theorem PQ_has (h : PQ s (2 ^ s 0) M G J a13 a19 a26 a33 a40) (w : Int) : HAS s w ↔ ∃ n, n < M ∧ kyN G J n = w := by
  constructor
  · rintro ⟨q, h1, h2, h3⟩
    obtain ⟨n, hn, e1, e2⟩ := h.2.2.2.1 q h1 h2
    refine ⟨n, hn, ?_⟩
    unfold kyP at h3
    rw [e1, e2] at h3
    exact h3
  · rintro ⟨n, hn, e⟩
    obtain ⟨r, hr, e1, e2⟩ := PQ_rep h hn
    refine ⟨r, hr.1, hr.2, ?_⟩
    unfold kyP
    rw [e1, e2]
    exact e
theorem PQ_key (h : PQ s (2 ^ s 0) M G J a13 a19 a26 a33 a40) {a b : Nat} (ha : a < M) (hb : b < M) (e : kyN G J a = kyN G J b) : a = b := by
  obtain ⟨⟨a1, a2⟩, -⟩ := h.2.1 a ha
  obtain ⟨⟨b1, b2⟩, -⟩ := h.2.1 b hb
  unfold kyN at e
  rcases Nat.lt_trichotomy a b with c | c | c
  · exact absurd ⟨by omega, by omega⟩ (h.2.2.1 a b c hb)
  · exact c
  · exact absurd ⟨by omega, by omega⟩ (h.2.2.1 b a c ha)
theorem PQ_btK (h : PQ s (2 ^ s 0) M G J a13 a19 a26 a33 a40) {m n : Nat} (hm : m < M) (hn : n < M) : btK (kyN G J m) (kyN G J n) ↔ btN G J m n := by
  obtain ⟨⟨a1, a2⟩, -⟩ := h.2.1 m hm
  obtain ⟨⟨b1, b2⟩, -⟩ := h.2.1 n hn
  unfold btK btN bt
  have e1 : kyN G J m / 2048 = G m := by unfold kyN; omega
  have e2 : kyN G J m % 2048 = J m := by unfold kyN; omega
  have e3 : kyN G J n / 2048 = G n := by unfold kyN; omega
  have e4 : kyN G J n % 2048 = J n := by unfold kyN; omega
  rw [e1, e2, e3, e4]
/-- what the law's rounds need of the layers -/
def LF (s : Nat → Nat) (M : Nat) (G J : Nat → Nat) : Prop := (∀ m n, m < M → n < M → btN G J m n → LL s G J m < LL s G J n) ∧ (∀ n, n < M → 0 < LL s G J n → ∃ m, m < M ∧ btN G J m n ∧ LL s G J m + 1 = LL s G J n) ∧ (∀ n, n < M → LL s G J n < LC s) ∧ (∀ k, k < LC s → ∃ n, n < M ∧ LL s G J n = k) ∧ ∀ k, lsz (HAS s) 4000000 k = fb_ct (fun n => decide (LL s G J n = k)) M
theorem PQ_LF (hW : WF s) (h : PQ s (2 ^ s 0) M G J a13 a19 a26 a33 a40) : LF s M G J := by
  have hP := prg_has hW
  have hh : ∀ n, n < M → HAS s (kyN G J n) := fun n hn => (PQ_has h _).mpr ⟨n, hn, rfl⟩
  obtain ⟨l1, l2⟩ := LYR_all hP
  refine ⟨fun m n hm hn hb => LYR_bt hP (hh m hm) (hh n hn) ((PQ_btK h hm hn).mpr hb), fun n hn h0 => ?_, fun n hn => l1 _ (hh n hn), fun k hk => ?_, fun k => ?_⟩
  · obtain ⟨v, v1, v2, v3⟩ := LYR_by hP (hh n hn) (k := LL s G J n - 1) (by show LL s G J n = LL s G J n - 1 + 1; omega)
    obtain ⟨m, hm, e⟩ := (PQ_has h _).mp v1
    subst e
    have v3' : LL s G J m = LL s G J n - 1 := v3
    exact ⟨m, hm, (PQ_btK h hm hn).mp v2, by omega⟩
  · obtain ⟨v, v1, v2⟩ := l2 k hk
    obtain ⟨n, hn, e⟩ := (PQ_has h _).mp v1
    subst e
    exact ⟨n, hn, v2⟩
  · rw [lsz_ct (fun w => PQ_has h w) (fun a b ha hb e => PQ_key h ha hb e) k 4000000]
    refine fb_ct_cong fun n hn => decide_eq_decide.mpr ⟨fun z => z.2.2, fun z => ?_⟩
    have := hP _ (hh n hn)
    exact ⟨by omega, by omega, z⟩
/-- before round L has come to n: layers below L stand, those of L below n -/
def MA (s : Nat → Nat) (M : Nat) (G J : Nat → Nat) (L n : Nat) (ta : Nat → Int32) : Prop := ∀ i, i < M → ta i = if LL s G J i < L ∨ (LL s G J i = L ∧ i < n) then iI (LL s G J i : Nat) else -1
variable {nn : Nat} {by_ : Nat → Int} {cc pp : Int} {Q : Int32 → DT → Prop} {n1 : Nat} {x5 x7 : Int32} {d : DT} {ta : Nat → Int32}
theorem LC_bd (hW : WF s) : LC s ≤ 2377 := lOK_cnt (lrun_ok (prg_has hW) 4000000)
theorem sL_67 (hW : WF s) (h : PQ s (2 ^ s 0) M G J a13 a19 a26 a33 a40) (hF : LF s M G J) (hM : M ≤ 128) (h1 : n1 = M) {L n : Nat} (hn : n < M) (hL : L ≤ 2377) (hA : MA s M G J L n ta) {k131 : Int32 → Prop} (hy : (∀ m, m < M → LL s G J m < L ∨ ¬ btN G J m n) → k131 1) (hx : ¬ (∀ m, m < M → LL s G J m < L ∨ ¬ btN G J m n) → k131 0) : ∀ (f m : Nat), m + f = M → (∀ i, i < m → LL s G J i < L ∨ ¬ btN G J i n) → wp_L_layers_L67 a13 a19 n1 (iI (M : Nat)) x5 (iI (L : Nat)) x7 (iI (n : Nat)) d ta k131 Q (f + 2) 1 (iI (m : Nat)) := by
  have hC := LC_bd hW
  subst h1
  obtain ⟨⟨g1, g2⟩, g3, g4, -⟩ := h.2.1 n hn
  intro f
  induction f with
  | zero =>
    intro m hm ha
    unfold wp_L_layers_L67
    obtain rfl : m = n1 := by omega
    exact ⟨fun _ => hy ha, fun z => absurd (Int32.le_refl _) z⟩
  | succ f ih =>
    intro m hm ha
    obtain ⟨⟨m1, m2⟩, m3, m4, -⟩ := h.2.1 m (by omega)
    have i1 : vp_in (iI (m : Nat)) n1 := in_lit (by omega) (by omega)
    have i1' : vp_in (iI (m : Nat)) 256 := in_lit (by omega) (by omega)
    have i2 : vp_in (iI (n : Nat)) 256 := in_lit (by omega) (by omega)
    have lt := hF.2.2.1 m (by omega)
    have next : (LL s G J m < L ∨ ¬ btN G J m n) → wp_L_layers_L67 a13 a19 n1 (iI (n1 : Nat)) x5 (iI (L : Nat)) x7 (iI (n : Nat)) d ta k131 Q (f + 2) 1 (iI ((m + 1 : Nat) : Int)) := fun z => ih (m + 1) (by omega) fun i hi => by
      by_cases e : i = m
      · subst e; exact z
      · exact ha i (by omega)
    have b96 : ¬ LL s G J m < L → wp_L_layers_b96 a13 a19 n1 (iI (n1 : Nat)) x5 (iI (L : Nat)) x7 (iI (n : Nat)) d ta (fun z0 z1 => wp_L_layers_L67 a13 a19 n1 (iI (n1 : Nat)) x5 (iI (L : Nat)) x7 (iI (n : Nat)) d ta k131 Q (f + 2) z0 z1) k131 Q (iI (m : Nat)) := by
      intro hl
      unfold wp_L_layers_b96
      rw [iI_clN (by omega), iI_clN (by omega), m3, m4, g3, g4, iI_succ]
      refine ⟨i1', i1', i2, i2, sL_beats (by omega) (by omega) (by omega) (by omega) (fun b => ⟨fun _ => ?_, fun z => absurd z (by decide)⟩) (fun b => ⟨fun z => absurd rfl z, fun _ => next (Or.inr b)⟩)⟩
      have nk := hx fun z => by rcases z m (by omega) with y | y; exact hl y; exact y b
      unfold wp_L_layers_L67
      exact ⟨fun _ => nk, fun _ => ⟨fun _ => nk, fun z => absurd rfl z⟩⟩
    unfold wp_L_layers_L67
    rw [iI_le (by omega) (by omega) (by omega) (by omega), iI_clN (by omega), hA m (by omega), iI_succ]
    refine ⟨fun z => by omega, fun _ => ⟨fun z => absurd z (by decide), fun _ => ⟨i1, ?_⟩⟩⟩
    by_cases c : LL s G J m < L ∨ (LL s G J m = L ∧ m < n)
    · rw [if_pos c, lt0_I (by omega) (by omega), iI_lt (by omega) (by omega) (by omega) (by omega)]
      refine ⟨fun z => by omega, fun _ => ⟨i1, fun z => next (Or.inl (by omega)), fun z => b96 (by omega)⟩⟩
    · rw [if_neg c]
      exact ⟨fun _ => b96 (by omega), fun z => absurd (by decide) z⟩
theorem LL_is (hF : LF s M G J) {L n : Nat} (hn : n < M) : (L ≤ LL s G J n ∧ ∀ m, m < M → LL s G J m < L ∨ ¬ btN G J m n) ↔ LL s G J n = L := by
  obtain ⟨f1, f2, -⟩ := hF
  constructor
  · intro ⟨a, b⟩
    by_cases c : LL s G J n = L
    · exact c
    · obtain ⟨m, hm, e1, e2⟩ := f2 n hn (by omega)
      rcases b m hm with y | y
      · omega
      · exact absurd e1 y
  · intro e
    refine ⟨by omega, fun m hm => ?_⟩
    by_cases c : btN G J m n
    · have := f1 m n hm hn c
      exact Or.inl (by omega)
    · exact Or.inr c
theorem MA_step {L n : Nat} (hn : n < M) (hA : MA s M G J L n ta) : MA s M G J L (n + 1) (if LL s G J n = L then upd ta n (iI (L : Nat)) else ta) := by
  intro i hi
  by_cases e : i = n
  · subst e
    by_cases c : LL s G J i = L
    · rw [if_pos c, pk_us, if_pos (Or.inr ⟨c, by omega⟩), c]
    · rw [if_neg c, hA i hi]
      by_cases l : LL s G J i < L
      · rw [if_pos (Or.inl l), if_pos (Or.inl l)]
      · rw [if_neg (by omega), if_neg (by omega)]
  · have v : (if LL s G J n = L then upd ta n (iI (L : Nat)) else ta) i = ta i := by
      split
      · rw [pk_un e]
      · rfl
    rw [v, hA i hi]
    by_cases l : LL s G J i < L ∨ (LL s G J i = L ∧ i < n)
    · rw [if_pos l, if_pos (by omega)]
    · rw [if_neg l, if_neg (by omega)]
theorem sL_43 (hW : WF s) (h : PQ s (2 ^ s 0) M G J a13 a19 a26 a33 a40) (hF : LF s M G J) (hM : M ≤ 128) (h1 : n1 = M) {L : Nat} (hL : L ≤ 2377) {k155 : Int32 → (Nat → Int32) → Prop} (hk : ∀ ta, MA s M G J L M ta → k155 (iI (fb_ct (fun n => decide (LL s G J n = L)) M : Nat)) ta) : ∀ (f n : Nat) (ta : Nat → Int32), n + f = M → MA s M G J L n ta → wp_L_layers_L43 a13 a19 n1 (iI (M : Nat)) x5 (iI (L : Nat)) d k155 Q (f + 1) (iI (fb_ct (fun n => decide (LL s G J n = L)) n : Nat)) (iI (n : Nat)) ta := by
  have hC := LC_bd hW
  intro f
  induction f with
  | zero =>
    intro n ta hn hA
    unfold wp_L_layers_L43
    obtain rfl : n = M := by omega
    exact ⟨fun _ => hk ta hA, fun z => absurd (Int32.le_refl _) z⟩
  | succ f ih =>
    intro n ta hn hA
    have lt := hF.2.2.1 n (by omega)
    have hc := fb_ct_le (fun n => decide (LL s G J n = L)) n
    have st := MA_step (n := n) (by omega) hA
    have yes : LL s G J n = L → wp_L_layers_L43 a13 a19 n1 (iI (M : Nat)) x5 (iI (L : Nat)) d k155 Q (f + 1) (iI (fb_ct (fun n => decide (LL s G J n = L)) n : Nat) + 1) (iI ((n + 1 : Nat) : Int)) (upd ta n (iI (L : Nat))) := by
      intro e
      rw [if_pos e] at st
      have := ih (n + 1) _ (by omega) st
      rw [fb_ct_succ, if_pos (decide_eq_true e)] at this
      rw [iI_succ]
      exact this
    have no : ¬ LL s G J n = L → wp_L_layers_L43 a13 a19 n1 (iI (M : Nat)) x5 (iI (L : Nat)) d k155 Q (f + 1) (iI (fb_ct (fun n => decide (LL s G J n = L)) n : Nat)) (iI ((n + 1 : Nat) : Int)) ta := by
      intro e
      rw [if_neg e] at st
      have := ih (n + 1) _ (by omega) st
      rw [fb_ct_succ, if_neg (by rw [decide_eq_true_eq]; exact e)] at this
      exact this
    have i1 : vp_in (iI (n : Nat)) n1 := in_lit (by omega) (by omega)
    unfold wp_L_layers_L43
    rw [iI_le (by omega) (by omega) (by omega) (by omega), iI_clN (by omega), iI_succ n]
    refine ⟨fun z => by omega, fun _ => ⟨i1, ?_⟩⟩
    rw [hA n (by omega)]
    by_cases c : LL s G J n < L ∨ (LL s G J n = L ∧ n < n)
    · rw [if_pos c, ge0_I (by omega) (by omega)]
      refine ⟨fun _ => ⟨1, ?_⟩, fun z => by omega⟩
      have nk := no (by omega)
      unfold wp_L_layers_L67
      exact ⟨fun _ => ⟨fun z => absurd rfl z, fun _ => nk⟩, fun _ => ⟨fun _ => ⟨fun z => absurd rfl z, fun _ => nk⟩, fun z => absurd rfl z⟩⟩
    · rw [if_neg c]
      refine ⟨fun z => absurd z (by decide), fun _ => ⟨M + 2, ?_⟩⟩
      refine sL_67 hW h hF hM h1 (by omega) hL hA (fun y => ⟨fun _ => ⟨i1, yes ((LL_is hF (by omega)).mp ⟨by omega, y⟩)⟩, fun z => absurd z (by decide)⟩) (fun y => ⟨fun z => absurd rfl z, fun _ => no fun e => y ((LL_is hF (by omega)).mpr e).2⟩) M 0 (by omega) (fun i hi => absurd hi (Nat.not_lt_zero _))
theorem ct_lt (p : Nat → Nat) (L : Nat) : ∀ M, fb_ct (fun n => decide (p n < L + 1)) M = fb_ct (fun n => decide (p n < L)) M + fb_ct (fun n => decide (p n = L)) M
  | 0 => rfl
  | M + 1 => by
    have := ct_lt p L M
    rw [fb_ct_succ, fb_ct_succ, fb_ct_succ]
    rcases Nat.lt_trichotomy (p M) L with c | c | c
    · rw [if_pos (decide_eq_true (by omega)), if_pos (decide_eq_true c), if_neg (by rw [decide_eq_true_eq]; omega)]; omega
    · rw [if_pos (decide_eq_true (by omega)), if_neg (by rw [decide_eq_true_eq]; omega), if_pos (decide_eq_true c)]; omega
    · rw [if_neg (by rw [decide_eq_true_eq]; omega), if_neg (by rw [decide_eq_true_eq]; omega), if_neg (by rw [decide_eq_true_eq]; omega)]; omega
theorem ct_full {p : Nat → Nat} {L : Nat} : ∀ {M : Nat}, fb_ct (fun n => decide (p n < L)) M < M → ∃ n, n < M ∧ L ≤ p n
  | 0, h => absurd h (Nat.not_lt_zero _)
  | M + 1, h => by
    rw [fb_ct_succ] at h
    by_cases c : p M < L
    · rw [if_pos (decide_eq_true c)] at h
      obtain ⟨n, a, b⟩ := ct_full (M := M) (p := p) (L := L) (by omega)
      exact ⟨n, by omega, b⟩
    · exact ⟨M, by omega, by omega⟩
theorem ct_all {p : Nat → Nat} {L : Nat} : ∀ {M : Nat}, M ≤ fb_ct (fun n => decide (p n < L)) M → ∀ n, n < M → p n < L
  | 0, _, n, hn => absurd hn (Nat.not_lt_zero _)
  | M + 1, h, n, hn => by
    have le := fb_ct_le (fun n => decide (p n < L)) M
    rw [fb_ct_succ] at h
    by_cases c : p M < L
    · rw [if_pos (decide_eq_true c)] at h
      by_cases e : n = M
      · subst e; exact c
      · exact ct_all (M := M) (by omega) n (by omega)
    · rw [if_neg (by rw [decide_eq_true_eq]; exact c)] at h
      omega
theorem sL_32 (hW : WF s) (h : PQ s (2 ^ s 0) M G J a13 a19 a26 a33 a40) (hF : LF s M G J) (hM : M ≤ 128) (h1 : n1 = M) {k181 : Int32 → DT → (Nat → Int32) → Prop} (hk : ∀ d ta, IV s nn by_ cc pp d → (∀ i, i < M → ta i = iI (LL s G J i : Nat)) → k181 (iI (LC s : Nat)) d ta) : ∀ (f L : Nat) (d : DT) (ta : Nat → Int32), L + f = LC s → IV s nn by_ cc pp d → MA s M G J L 0 ta → wp_L_layers_L32 a13 a19 n1 (iI (M : Nat)) k181 Q (f + 1) (iI (M - fb_ct (fun n => decide (LL s G J n < L)) M : Nat)) (iI (L : Nat)) d ta := by
  have hC := LC_bd hW
  intro f
  induction f with
  | zero =>
    intro L d ta hL hI hA
    have hL2 : L = LC s := by omega
    have all : ∀ n, n < M → LL s G J n < L := fun n hn => by rw [hL2]; exact hF.2.2.1 n hn
    have z0 : fb_ct (fun n => decide (LL s G J n < L)) M = M := by
      have le := fb_ct_le (fun n => decide (LL s G J n < L)) M
      rcases Nat.lt_or_ge (fb_ct (fun n => decide (LL s G J n < L)) M) M with c | c
      · obtain ⟨n, a, b⟩ := ct_full c
        have := all n a
        omega
      · omega
    unfold wp_L_layers_L32
    rw [z0, Nat.sub_self, le0_I (by omega) (by omega)]
    refine ⟨fun _ => ?_, fun z => by omega⟩
    rw [hL2]
    exact hk d ta hI fun i hi => by rw [hA i hi, if_pos (Or.inl (all i hi))]
  | succ f ih =>
    intro L d ta hL hI hA
    unfold wp_L_layers_L32
    have le := fb_ct_le (fun n => decide (LL s G J n < L)) M
    rw [le0_I (by omega) (by omega)]
    refine ⟨fun z => ?_, fun z => ⟨M + 1, ?_⟩⟩
    · obtain ⟨n, hn, e⟩ := hF.2.2.2.1 L (by omega)
      have := ct_all (M := M) (p := LL s G J) (L := L) (by omega) n hn
      omega
    · refine sL_43 hW h hF hM h1 (by omega) (fun ta2 hA2 => sN_layerSize hI (by omega) fun d2 hI2 => ⟨fun _ v173 h173 => ?_, fun z => absurd (by rw [hF.2.2.2.2 L]) z⟩) M 0 ta (by omega) hA
      have e := ct_lt (LL s G J) L M
      have le2 := fb_ct_le (fun n => decide (LL s G J n < L + 1)) M
      have ev : v173 = iI (M - fb_ct (fun n => decide (LL s G J n < L + 1)) M : Nat) := by
        rw [h173, iI_sub]
        congr 1
        omega
      rw [ev, iI_succ]
      refine ih (L + 1) d2 ta2 (by omega) hI2 fun i hi => ?_
      rw [hA2 i hi]
      by_cases c : LL s G J i < L ∨ (LL s G J i = L ∧ i < M)
      · rw [if_pos c, if_pos (by omega)]
      · rw [if_neg c, if_neg (by omega)]
end
