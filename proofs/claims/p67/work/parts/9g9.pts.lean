/-! THE LAW GOES THROUGH ALL CHOICES -/
section
variable {s : Nat → Nat}
/-- the sets below q have come: M pairs, each with its first, its lightest, how often -/
def PQ (s : Nat → Nat) (q M : Nat) (G J : Nat → Nat) (a13 a19 a26 a33 a40 : Nat → Int32) : Prop := M ≤ q ∧ (∀ n, n < M → (G n ≤ 1188 ∧ J n ≤ 1188) ∧ a13 n = iI (G n : Nat) ∧ a19 n = iI (J n : Nat) ∧ a26 n = iI (gC s (G n) (J n) q : Nat) ∧ a33 n = iI (gL s (G n) (J n) q : Nat) ∧ a40 n = iI (gT s (G n) (J n) q : Nat) ∧ 0 < gT s (G n) (J n) q) ∧ (∀ a b, a < b → b < M → ¬ (G a = G b ∧ J a = J b)) ∧ (∀ r, r < q → rf s (s 1) r = 0 → ∃ n, n < M ∧ sm s 1 r (s 0) = G n ∧ sm s 2 r (s 0) = J n) ∧ ∀ n, M ≤ n → a40 n = 0
theorem g_no {g j q : Nat} (no : ¬ prS s g j q) : gC s g j (q + 1) = gC s g j q ∧ gL s g j (q + 1) = gL s g j q ∧ gT s g j (q + 1) = gT s g j q := by
  simp only [gC, gL, gT]
  rw [if_neg (fun z => no z.1), if_neg (fun z => no z.1), if_neg no]
  exact ⟨rfl, rfl, rfl⟩
theorem PQ_skip {q M : Nat} {G J : Nat → Nat} {a13 a19 a26 a33 a40 : Nat → Int32} (h : PQ s q M G J a13 a19 a26 a33 a40) (hr : rf s (s 1) q ≠ 0) : PQ s (q + 1) M G J a13 a19 a26 a33 a40 := by
  obtain ⟨h1, h2, h3, h4, h5⟩ := h
  refine ⟨by omega, fun n hn => ?_, h3, fun r hr1 hr2 => ?_, h5⟩
  · obtain ⟨b, c, d, e, f, g, k⟩ := h2 n hn
    have no : ¬ prS s (G n) (J n) q := fun z => hr z.1
    simp only [gC, gL, gT]
    rw [if_neg (fun z => no z.1), if_neg (fun z => no z.1), if_neg no]
    exact ⟨b, c, d, e, f, g, k⟩
  · by_cases e : r = q
    · subst e; exact absurd hr2 hr
    · exact h4 r (by omega) hr2
theorem PQ_old (hW : WF s) {q M n0 : Nat} {G J : Nat → Nat} {a13 a19 a26 a33 a40 : Nat → Int32} (h : PQ s q M G J a13 a19 a26 a33 a40) (hr : rf s (s 1) q = 0) (hn : n0 < M) (hg : G n0 = sm s 1 q (s 0)) (hj : J n0 = sm s 2 q (s 0)) : PQ s (q + 1) M G J a13 a19 a26 (if sm s 0 q (s 0) < sm s 0 (gL s (G n0) (J n0) q) (s 0) then upd a33 n0 (iI (q : Nat)) else a33) (upd a40 n0 (a40 n0 + 1)) := by
  obtain ⟨h1, h2, h3, h4, h5⟩ := h
  refine ⟨by omega, fun n hn2 => ?_, h3, fun r hr1 hr2 => ?_, fun n hn2 => by rw [pk_un (by omega)]; exact h5 n hn2⟩
  · obtain ⟨b, c, d, e, f, g, k⟩ := h2 n hn2
    by_cases i : n = n0
    · subst i
      have ye : prS s (G n) (J n) q := ⟨hr, hg.symm, hj.symm⟩
      simp only [gC, gL, gT]
      rw [if_neg (fun z => by have := z.2; omega), if_pos ye, pk_us, g, iI_succ]
      refine ⟨b, c, d, e, ?_, rfl, by omega⟩
      by_cases w : sm s 0 q (s 0) < sm s 0 (gL s (G n) (J n) q) (s 0)
      · rw [if_pos w, if_pos ⟨ye, Or.inr w⟩, pk_us]
      · rw [if_neg w, if_neg (fun z => z.2.elim (fun y => by omega) w)]
        exact f
    · have no : ¬ prS s (G n) (J n) q := fun z => by
        obtain ⟨-, z1, z2⟩ := z
        rcases Nat.lt_or_ge n n0 with y | y
        · exact h3 n n0 y hn ⟨by omega, by omega⟩
        · exact h3 n0 n (by omega) hn2 ⟨by omega, by omega⟩
      obtain ⟨n1, n2, n3⟩ := g_no no
      rw [n1, n2, n3, pk_un i]
      refine ⟨b, c, d, e, ?_, g, k⟩
      split
      · rw [pk_un i]; exact f
      · exact f
  · by_cases e : r = q
    · subst e; exact ⟨n0, hn, hg.symm, hj.symm⟩
    · exact h4 r (by omega) hr2
theorem PQ_new (hW : WF s) {q M : Nat} {G J : Nat → Nat} {a13 a19 a26 a33 a40 : Nat → Int32} (h : PQ s q M G J a13 a19 a26 a33 a40) (hr : rf s (s 1) q = 0) (hno : ∀ n, n < M → ¬ (G n = sm s 1 q (s 0) ∧ J n = sm s 2 q (s 0))) : PQ s (q + 1) (M + 1) (fun n => if n = M then sm s 1 q (s 0) else G n) (fun n => if n = M then sm s 2 q (s 0) else J n) (upd a13 M (iI (sm s 1 q (s 0) : Nat))) (upd a19 M (iI (sm s 2 q (s 0) : Nat))) (upd a26 M (iI (q : Nat))) (upd a33 M (iI (q : Nat))) (upd a40 M (a40 M + 1)) := by
  obtain ⟨h1, h2, h3, h4, h5⟩ := h
  refine ⟨by omega, fun n hn2 => ?_, fun a b hab hb => ?_, fun r hr1 hr2 => ?_, fun n hn2 => by rw [pk_un (by omega)]; exact h5 n (by omega)⟩
  · by_cases i : n = M
    · subst i
      simp only [if_true]
      have z0 : gT s (sm s 1 q (s 0)) (sm s 2 q (s 0)) q = 0 := gT_0 fun r hrq z => by
        obtain ⟨y1, y2, y3⟩ := z
        obtain ⟨m, hm, e1, e2⟩ := h4 r hrq y1
        exact hno m hm ⟨by omega, by omega⟩
      have ye : prS s (sm s 1 q (s 0)) (sm s 2 q (s 0)) q := ⟨hr, rfl, rfl⟩
      simp only [gC, gL, gT]
      rw [if_pos ⟨ye, z0⟩, if_pos ⟨ye, Or.inl z0⟩, if_pos ye, z0, pk_us, pk_us, pk_us, pk_us, pk_us, h5 n (Nat.le_refl _)]
      exact ⟨⟨sm_bd hW (by omega) q, sm_bd hW (by omega) q⟩, rfl, rfl, rfl, rfl, rfl, by omega⟩
    · simp only [if_neg i]
      obtain ⟨b, c, d, e, f, g, k⟩ := h2 n (by omega)
      have no : ¬ prS s (G n) (J n) q := fun z => hno n (by omega) ⟨z.2.1.symm, z.2.2.symm⟩
      simp only [gC, gL, gT]
      rw [if_neg (fun z => no z.1), if_neg (fun z => no z.1), if_neg no, pk_un i, pk_un i, pk_un i, pk_un i, pk_un i]
      exact ⟨b, c, d, e, f, g, k⟩
  · simp only [if_neg (show a ≠ M by omega)]
    by_cases i : b = M
    · simp only [if_pos i]
      exact hno a (by omega)
    · simp only [if_neg i]
      exact h3 a b hab (by omega)
  · by_cases e : r = q
    · subst e
      exact ⟨M, by omega, by simp, by simp⟩
    · obtain ⟨n, hn, e1, e2⟩ := h4 r (by omega) hr2
      exact ⟨n, by omega, by simp only [if_neg (show n ≠ M by omega)]; exact e1, by simp only [if_neg (show n ≠ M by omega)]; exact e2⟩
variable {nn : Nat} {by_ : Nat → Int} {cc pp : Int} {Q : Int32 → DT → Prop}
theorem sL_160 {x1 x2 x9 : Int32} {d : DT} {q M g j : Nat} {G J : Nat → Nat} {a13 a19 a26 a33 a40 : Nat → Int32} (h : PQ s q M G J a13 a19 a26 a33 a40) (hM : M ≤ 128) (hg : g ≤ 1188) (hj : j ≤ 1188) {k192 : Int32 → Prop} (hk : ∀ n, n ≤ M → (n < M → G n = g ∧ J n = j) → (n = M → ∀ i, i < M → ¬ (G i = g ∧ J i = j)) → k192 (iI (n : Nat))) : ∀ (f n : Nat), n + f = M → (∀ i, i < n → ¬ (G i = g ∧ J i = j)) → wp_L_points_L160 x1 x2 (iI (M : Nat)) x9 (iI (g : Nat)) (iI (j : Nat)) d a13 a19 a26 a33 a40 k192 Q (f + 1) (iI (n : Nat)) := by
  intro f
  induction f with
  | zero =>
    intro n hn hno
    unfold wp_L_points_L160
    obtain rfl : n = M := by omega
    exact ⟨fun _ => hk n (Nat.le_refl _) (fun z => absurd z (Nat.lt_irrefl _)) (fun _ => hno), fun z => absurd (Int32.le_refl _) z⟩
  | succ f ih =>
    intro n hn hno
    obtain ⟨⟨b1, b2⟩, c, e, -⟩ := h.2.1 n (by omega)
    have next : ¬ (G n = g ∧ J n = j) → wp_L_points_L160 x1 x2 (iI (M : Nat)) x9 (iI (g : Nat)) (iI (j : Nat)) d a13 a19 a26 a33 a40 k192 Q (f + 1) (iI ((n + 1 : Nat) : Int)) := fun z => ih (n + 1) (by omega) fun i hi => by
      by_cases y : i = n
      · subst y; exact z
      · exact hno i (by omega)
    unfold wp_L_points_L160
    rw [iI_le (by omega) (by omega) (by omega) (by omega), iI_clN (by omega), c, e, iI_succ, iI_eq (by omega) (by omega) (by omega) (by omega), iI_eq (by omega) (by omega) (by omega) (by omega)]
    refine ⟨fun z => by omega, fun _ => ⟨in_lit (by omega) (by omega), fun z => next (fun y => by omega), fun z => ⟨in_lit (by omega) (by omega), fun y => hk n (by omega) (fun _ => ⟨by omega, by omega⟩) (fun x => by omega), fun y => next (fun x => by omega)⟩⟩⟩
theorem sL_229 {x1 x2 : Int32} {d : DT} (hI : IV s nn by_ cc pp d) (h7 : s 0 ≤ 7) {q n L : Nat} (hq : q < 2 ^ s 0) (hL : L < 2 ^ s 0) (hn : n < 256) {a13 a19 a26 a33 a40 : Nat → Int32} (e33 : a33 n = iI (L : Nat)) {k50 : Int32 → Int32 → Int32 → DT → (Nat → Int32) → (Nat → Int32) → (Nat → Int32) → (Nat → Int32) → (Nat → Int32) → Prop} {k271 : Int32 → Int32 → DT → (Nat → Int32) → (Nat → Int32) → (Nat → Int32) → (Nat → Int32) → (Nat → Int32) → Prop} {x8 : Int32} (hk : k50 x2 x8 (iI ((q + 1 : Nat) : Int)) d a13 a19 a26 (if sm s 0 q (s 0) < sm s 0 L (s 0) then upd a33 n (iI (q : Nat)) else a33) (upd a40 n (a40 n + 1))) : wp_L_points_b229 x1 k50 k271 Q x2 x8 (iI (q : Nat)) (iI (n : Nat)) d a13 a19 a26 a33 a40 := by
  have w1 := sm_bd7 hI.1 (w := 0) (by omega) q (s 0) (Nat.le_refl _)
  have w2 := sm_bd7 hI.1 (w := 0) (by omega) L (s 0) (Nat.le_refl _)
  have i1 : vp_in (iI (n : Nat)) 256 := in_lit hn (by omega)
  unfold wp_L_points_b229
  rw [iI_clN (by omega), e33, iI_succ]
  refine ⟨i1, i1, sL_sum (w := 0) hI hq (by omega) ⟨i1, sL_sum (w := 0) hI hL (by omega) ?_⟩⟩
  rw [iI_le (by omega) (by omega) (by omega) (by omega)]
  refine ⟨fun z => ?_, fun z => ⟨i1, ?_⟩⟩
  · rw [if_neg (by omega)] at hk; exact hk
  · rw [if_pos (by omega)] at hk; exact hk
theorem p2_7 (h7 : s 0 ≤ 7) : 2 ^ s 0 ≤ 128 := show 2 ^ s 0 ≤ 2 ^ 7 from Nat.pow_le_pow_right (by omega) h7
theorem rf_le6 {c q : Nat} : rf s c q ≤ 6 := by
  unfold rf rfb
  repeat' split
  all_goals omega
theorem sL_50 (hW : WF s) (h7 : s 0 ≤ 7) {k271 : Int32 → Int32 → DT → (Nat → Int32) → (Nat → Int32) → (Nat → Int32) → (Nat → Int32) → (Nat → Int32) → Prop} (hk : ∀ M G J a13 a19 a26 a33 a40 d, IV s nn by_ cc pp d → PQ s (2 ^ s 0) M G J a13 a19 a26 a33 a40 → k271 (iI (ALW s : Nat)) (iI (M : Nat)) d a13 a19 a26 a33 a40) : ∀ (f q M : Nat) (G J : Nat → Nat) (a13 a19 a26 a33 a40 : Nat → Int32) (d : DT), q + f = 2 ^ s 0 → IV s nn by_ cc pp d → PQ s q M G J a13 a19 a26 a33 a40 → wp_L_points_L50 (iI ((2 ^ s 0 : Nat) : Int)) k271 Q (f + 1) (iI (fb_ct (okS s (s 1) 0) q : Nat)) (iI (M : Nat)) (iI (q : Nat)) d a13 a19 a26 a33 a40 := by
  have hp := p2_7 h7
  intro f
  induction f with
  | zero =>
    intro q M G J a13 a19 a26 a33 a40 d hq hI hP
    unfold wp_L_points_L50
    obtain rfl : q = 2 ^ s 0 := by omega
    exact ⟨fun _ => hk M G J a13 a19 a26 a33 a40 d hI hP, fun z => absurd (Int32.le_refl _) z⟩
  | succ f ih =>
    intro q M G J a13 a19 a26 a33 a40 d hq hI hP
    have hM := hP.1
    have r6 := rf_le6 (s := s) (c := s 1) (q := q)
    have hc := fb_ct_le (okS s (s 1) 0) q
    have b1 : sm s 1 q (s 0) ≤ 1188 := sm_bd hW (by omega) q
    have b2 : sm s 2 q (s 0) ≤ 1188 := sm_bd hW (by omega) q
    unfold wp_L_points_L50
    rw [iI_le (by omega) (by omega) (by omega) (by omega)]
    refine ⟨fun z => by omega, fun _ => sL_refusal hI (by omega) (sN_refusal hI (by omega) fun d2 hI2 => ⟨fun z => absurd rfl z, fun _ => sN_sum (w := 0) hI2 (by omega) (by omega) fun d3 hI3 => sL_sum (w := 0) hI3 (by omega) (by omega) ⟨fun z => absurd rfl z, fun _ => sN_sum (w := 1) hI3 (by omega) (by omega) fun d4 hI4 => sL_sum (w := 1) hI4 (by omega) (by omega) ⟨fun z => absurd rfl z, fun _ => sN_sum (w := 2) hI4 (by omega) (by omega) fun d5 hI5 => sL_sum (w := 2) hI5 (by omega) (by omega) ⟨fun _ => ⟨fun hr => ?_, fun hr => ?_⟩, fun z => absurd rfl z⟩⟩⟩⟩)⟩
    · rw [eq0_I (by omega) (by omega)] at hr
      have hr2 : rf s (s 1) q = 0 := by omega
      refine sL_sum (w := 1) hI5 (by omega) (by omega) (sL_sum (w := 2) hI5 (by omega) (by omega) ⟨M + 1, ?_⟩)
      have ec : fb_ct (okS s (s 1) 0) (q + 1) = fb_ct (okS s (s 1) 0) q + 1 := by rw [fb_ct_succ, if_pos (okS_0.mpr hr2)]
      rw [iI_succ, ← ec]
      refine sL_160 hP (by omega) b1 b2 (fun n hn h1 h2 => ?_) M 0 (by omega) (fun i hi => absurd hi (Nat.not_lt_zero _))
      rw [iI_eq (by omega) (by omega) (by omega) (by omega)]
      refine ⟨fun z => ?_, fun z => ?_⟩
      · have hn2 : n < M := by omega
        obtain ⟨e1, e2⟩ := h1 hn2
        have hL := gL_lt (s := s) (g := G n) (j := J n) q
        exact sL_229 (L := gL s (G n) (J n) q) hI5 h7 (by omega) (by omega) (by omega) (hP.2.1 n hn2).2.2.2.2.1 (ih (q + 1) M G J _ _ _ _ _ d5 (by omega) hI5 (PQ_old hW hP hr2 hn2 e1 e2))
      · obtain rfl : n = M := by omega
        have i1 : vp_in (iI (n : Nat)) 256 := in_lit (by omega) (by omega)
        rw [iI_clN (by omega), iI_succ]
        refine ⟨i1, i1, i1, i1, sL_229 (L := q) hI5 h7 (by omega) (by omega) (by omega) pk_us ?_⟩
        rw [if_neg (Nat.lt_irrefl _)]
        exact ih (q + 1) (n + 1) _ _ _ _ _ _ _ d5 (by omega) hI5 (PQ_new hW hP hr2 (h2 rfl))
    · rw [eq0_I (by omega) (by omega)] at hr
      have hr2 : rf s (s 1) q ≠ 0 := by omega
      have ec : fb_ct (okS s (s 1) 0) (q + 1) = fb_ct (okS s (s 1) 0) q := by rw [fb_ct_succ, if_neg (fun z => hr2 (okS_0.mp z))]; rfl
      rw [iI_succ, ← ec]
      exact ih (q + 1) M G J a13 a19 a26 a33 a40 d5 (by omega) hI5 (PQ_skip hP hr2)
end
