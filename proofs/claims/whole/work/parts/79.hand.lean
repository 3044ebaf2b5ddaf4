/-! THE CHOICE AT HAND: another one leaves the frontier as it is -/
theorem rf_su5 {s : Nat → Nat} {v cap q : Nat} : rf (su s 5 v) cap q = rf s cap q := by
  unfold rf rfb
  rw [su_ne (by omega), su_ne (by omega), su_ne (by omega), su_ne (by omega), sm_su (by omega), ors_su (by omega), ors_su (by omega)]
theorem HS_su5 {s : Nat → Nat} {v cap wo : Nat} : HS (su s 5 v) cap wo = HS s cap wo := by
  unfold HS
  have e : JA (su s 5 v) cap wo = JA s cap wo := by
    funext g
    unfold JA
    rw [su_ne (show (0 : Nat) ≠ 5 by omega)]
    refine ja_congr (fun q _ => ⟨?_, ?_, ?_⟩) g
    · unfold okS; rw [rf_su5]
    · exact sm_su (by omega) _
    · exact sm_su (by omega) _
  rw [e]
theorem HH_su5 {s : Nat → Nat} {v : Nat} : HH (su s 5 v) = HH s := by
  unfold HH
  rw [su_ne (by omega), HS_su5]
theorem PB_su5 {s : Nat → Nat} {v : Nat} {h : Nat → Int} {q : Nat} : PB (su s 5 v) h q = PB s h q := by
  unfold PB
  rw [su_ne (by omega), sm_su (by omega), sm_su (by omega)]
theorem tm_su5 {s : Nat → Nat} {v cap : Nat} {h : Nat → Int} (n : Nat) : ∀ m, tmF (su s 5 v) cap h m n = tmF s cap h m n
  | 0 => rfl
  | m + 1 => by simp only [tmF]; rw [tm_su5 n m, rf_su5, PB_su5]
theorem ch_su5 {s : Nat → Nat} {v cap : Nat} {h : Nat → Int} (n : Nat) : ∀ m, chF (su s 5 v) cap h m n = chF s cap h m n
  | 0 => rfl
  | m + 1 => by simp only [chF]; rw [ch_su5 n m, tm_su5, rf_su5, PB_su5]
theorem lt_su5 {s : Nat → Nat} {v cap : Nat} {h : Nat → Int} (n : Nat) : ∀ m, ltF (su s 5 v) cap h m n = ltF s cap h m n
  | 0 => rfl
  | m + 1 => by simp only [ltF]; rw [lt_su5 n m, tm_su5, rf_su5, PB_su5, su_ne (by omega), sm_su (by omega), sm_su (by omega)]
theorem coP_su5 {s : Nat → Nat} {v cap : Nat} {h : Nat → Int} {m : Nat} {t c l : Nat → Int32} (hC : coP s cap h m t c l) : coP (su s 5 v) cap h m t c l := by
  refine ⟨fun n hn => ?_, fun n hn => ?_, fun n hn => ?_⟩
  · rw [tm_su5]; exact hC.1 n hn
  · rw [tm_su5, ch_su5]; exact hC.2.1 n hn
  · rw [tm_su5, lt_su5]; exact hC.2.2 n hn
theorem okS_su5 {s : Nat → Nat} {v cap wo : Nat} : okS (su s 5 v) cap wo = okS s cap wo := by
  funext q
  unfold okS
  rw [rf_su5]
theorem chP_su5 {s : Nat → Nat} {v : Nat} {sets lim must nev : Int32} {a b c d e : Nat → Int32} (h : chP s sets lim must nev a b c d e) : chP (su s 5 v) sets lim must nev a b c d e := by
  obtain ⟨h1, h2, h3, h4, h5, h6, h7, h8, h9⟩ := h
  have e0 : su s 5 v 0 = s 0 := su_ne (by omega)
  refine ⟨by rw [e0]; exact h1, by rw [su_ne (by omega)]; exact h2, by rw [su_ne (by omega)]; exact h3, by rw [su_ne (by omega)]; exact h4, fun q hq => ?_, fun q hq => ?_, fun q hq => ?_, fun q hq => ?_, fun q hq => ?_⟩
  all_goals rw [e0] at hq ⊢
  · rw [sm_su (by omega)]; exact h5 q hq
  · rw [sm_su (by omega)]; exact h6 q hq
  · rw [sm_su (by omega)]; exact h7 q hq
  · rw [ors_su (by omega)]; exact h8 q hq
  · rw [ors_su (by omega)]; exact h9 q hq
theorem frP_su5 {s : Nat → Nat} {v : Nat} {size vc ac area : Int32} {pa g j ch ti li mk vp : Nat → Int32} (h : frP s size vc ac area pa g j ch ti li mk vp) : frP (su s 5 v) size vc ac area pa g j ch ti li mk vp := by
  obtain ⟨h1, h2, h3, h4, h5, h6, h7, h8⟩ := h
  have e0 : su s 5 v 0 = s 0 := su_ne (by omega)
  have e1 : su s 5 v 1 = s 1 := su_ne (by omega)
  unfold frP
  rw [HH_su5, e0, e1, okS_su5]
  exact ⟨h1, h2, h3, h4, h5, coP_su5 h6, h7, h8⟩
theorem dkP_su5 {s : Nat → Nat} {v : Nat} {ff sets lim must nev : Int32} {cw cg cj cb cn : Nat → Int32} {size vc ac area : Int32} {pa g j ch ti li mk vp : Nat → Int32} (h : dkP s ff sets lim must nev cw cg cj cb cn size vc ac area pa g j ch ti li mk vp) : dkP (su s 5 v) ff sets lim must nev cw cg cj cb cn size vc ac area pa g j ch ti li mk vp := by
  obtain ⟨h1, h2⟩ := h
  refine ⟨h1, ?_⟩
  rcases h2 with h2 | ⟨h2, h3, h4⟩
  · exact Or.inl h2
  · exact Or.inr ⟨h2, chP_su5 h3, frP_su5 h4⟩
theorem sp_takeInHand {s : Nat → Nat} (hW : WF s) {ps : List (Nat → Nat)} (hl : ps.length ≤ 8) {p1 : Int32} {t_past_count : Int32} {t_now_items : Int32} {t_now_capacity : Int32} {t_now_limit : Int32} {t_now_mustSet : Int32} {t_now_neverSet : Int32} {t_now_hand : Int32} {t_now_weight : Nat → Int32} {t_now_gain : Nat → Int32} {t_now_joy : Nat → Int32} {t_now_bars : Nat → Int32} {t_now_needs : Nat → Int32} {t_past_setups_pq : Nat → Nat → Nat} {t_past_setups_pi : Nat → Nat → Int32} {t_past_setups_pr : Nat → Nat → Nat → Int32} {Q : Int32 → Int32 → (Nat → Nat → Nat) → (Nat → Nat → Int32) → (Nat → Nat → Nat → Int32) → Prop} (hP : paP ps t_past_count t_past_setups_pi t_past_setups_pr) (hS : suP s t_now_items t_now_capacity t_now_limit t_now_mustSet t_now_neverSet t_now_hand t_now_weight t_now_gain t_now_joy t_now_bars t_now_needs) (hQ : ∀ count pq pi pr, paP (pshL ps s) count pi pr → Q count p1 pq pi pr) : wp_X10_takeInHand p1 t_past_count t_now_items t_now_capacity t_now_limit t_now_mustSet t_now_neverSet t_now_hand t_now_weight t_now_gain t_now_joy t_now_bars t_now_needs t_past_setups_pq t_past_setups_pi t_past_setups_pr Q := by
  unfold wp_X10_takeInHand
  exact sp_push hW hl hP hS hQ
theorem sp_reqAllowed {s : Nat → Nat} (hW : WF s) {hand : Int32} {p1 : Int32} {t_frontierFresh : Int32} {t_now_items : Int32} {t_now_capacity : Int32} {t_now_limit : Int32} {t_now_mustSet : Int32} {t_now_neverSet : Int32} {t_choices_sets : Int32} {t_choices_limit : Int32} {t_choices_mustSet : Int32} {t_choices_neverSet : Int32} {t_choices_weight : Nat → Int32} {t_now_weight : Nat → Int32} {t_choices_gain : Nat → Int32} {t_now_gain : Nat → Int32} {t_choices_joy : Nat → Int32} {t_now_joy : Nat → Int32} {t_choices_barred : Nat → Int32} {t_now_bars : Nat → Int32} {t_choices_needed : Nat → Int32} {t_now_needs : Nat → Int32} {t_stairs_allowedCount : Int32} {t_stairs_joyAt : Nat → Int32} {t_frontier_size : Int32} {t_frontier_vertexCount : Int32} {t_frontier_allowedCount : Int32} {t_frontier_areaBelow : Int32} {t_frontier_pointAt : Nat → Int32} {t_frontier_gain : Nat → Int32} {t_frontier_joy : Nat → Int32} {t_frontier_choice : Nat → Int32} {t_frontier_times : Nat → Int32} {t_frontier_light : Nat → Int32} {t_frontier_mark : Nat → Int32} {t_frontier_vertexPoint : Nat → Int32} {Q : Int32 → Int32 → Int32 → Int32 → Int32 → (Nat → Int32) → (Nat → Int32) → (Nat → Int32) → (Nat → Int32) → (Nat → Int32) → Int32 → (Nat → Int32) → Int32 → Int32 → Int32 → Int32 → (Nat → Int32) → (Nat → Int32) → (Nat → Int32) → (Nat → Int32) → (Nat → Int32) → (Nat → Int32) → (Nat → Int32) → (Nat → Int32) → Prop} {QX : String → Int32 → Int32 → Int32 → Int32 → Int32 → (Nat → Int32) → (Nat → Int32) → (Nat → Int32) → (Nat → Int32) → (Nat → Int32) → Int32 → (Nat → Int32) → Int32 → Int32 → Int32 → Int32 → (Nat → Int32) → (Nat → Int32) → (Nat → Int32) → (Nat → Int32) → (Nat → Int32) → (Nat → Int32) → (Nat → Int32) → (Nat → Int32) → Prop} {q : Nat} (hq : q < 2 ^ s 0) (hp : p1 = iI (q : Nat)) (hS : suP s t_now_items t_now_capacity t_now_limit t_now_mustSet t_now_neverSet hand t_now_weight t_now_gain t_now_joy t_now_bars t_now_needs) (hD : dkP s t_frontierFresh t_choices_sets t_choices_limit t_choices_mustSet t_choices_neverSet t_choices_weight t_choices_gain t_choices_joy t_choices_barred t_choices_needed t_frontier_size t_frontier_vertexCount t_frontier_allowedCount t_frontier_areaBelow t_frontier_pointAt t_frontier_gain t_frontier_joy t_frontier_choice t_frontier_times t_frontier_light t_frontier_mark t_frontier_vertexPoint) (hQ : ∀ sets lim must nev cw cg cj cb cn sac sja size vc ac area pa g j ch ti li mk vp, chP s sets lim must nev cw cg cj cb cn → frP s size vc ac area pa g j ch ti li mk vp → rf s (s 1) q = 0 → Q 1 sets lim must nev cw cg cj cb cn sac sja size vc ac area pa g j ch ti li mk vp) (hX : ∀ sets lim must nev cw cg cj cb cn sac sja size vc ac area pa g j ch ti li mk vp, chP s sets lim must nev cw cg cj cb cn → frP s size vc ac area pa g j ch ti li mk vp → rf s (s 1) q ≠ 0 → QX "java/lang/IllegalStateException" 1 sets lim must nev cw cg cj cb cn sac sja size vc ac area pa g j ch ti li mk vp) : wp_X10_requireAllowed p1 t_frontierFresh t_now_items t_now_capacity t_now_limit t_now_mustSet t_now_neverSet t_choices_sets t_choices_limit t_choices_mustSet t_choices_neverSet t_choices_weight t_now_weight t_choices_gain t_now_gain t_choices_joy t_now_joy t_choices_barred t_now_bars t_choices_needed t_now_needs t_stairs_allowedCount t_stairs_joyAt t_frontier_size t_frontier_vertexCount t_frontier_allowedCount t_frontier_areaBelow t_frontier_pointAt t_frontier_gain t_frontier_joy t_frontier_choice t_frontier_times t_frontier_light t_frontier_mark t_frontier_vertexPoint Q QX := by
  subst hp
  have hr := rf_le s (s 1) q
  unfold wp_X10_requireAllowed
  refine sp_refresh hW hS hD fun sets lim must nev cw cg cj cb cn sac sja size vc ac area pa g j ch ti li mk vp hP hF => ?_
  rw [hS.2.1]
  refine sp_reason hW hW.2.1 hq hP ?_
  rw [iI_z (by omega)]
  exact ⟨fun c => hQ sets lim must nev cw cg cj cb cn sac sja size vc ac area pa g j ch ti li mk vp hP hF c, fun c => hX sets lim must nev cw cg cj cb cn sac sja size vc ac area pa g j ch ti li mk vp hP hF c⟩
