abbrev ws_J0_coder_7d493 : List Cond := .code yJ0_coder_7d493 cJ0_coder_7d493 1 (some .byte) :: WALL
abbrev rm_J0_coder_7d493 : Room := { frames := 0, cells := 0, slots := 0, locals := 0 }
abbrev w_J0_coder_7d493 (C : Nat → ClassId) (q : Nat) (t_bs : List Int32) : va_W := []
abbrev q_J0_coder_7d493 (D : va_G) (C : Nat → ClassId) (q : Nat) (t_bs : List Int32) (Q : Int32 → Prop) (A : Nat → Prop) : Array Value → State → Outcome → State → Prop := va_Qi (fun (r : Int32) (u : Unit) => Q r) (fun (u : Unit) (t : State) => va_P D vwCl (w_J0_coder_7d493 C q t_bs) t.heap ∧ va_K D vwCl (tyL C) t ∧ va_D A (w_J0_coder_7d493 C q t_bs)) A
set_option maxHeartbeats 4000000 in
set_option maxRecDepth 100000 in
theorem met_J0_coder_7d493 (l : Launch) (hst : l.stackTraces = false) (D : va_G) (C : Nat → ClassId) (q : Nat) (t_bs : List Int32) (sz : Nat) (Q : Int32 → Prop) (hwp : wp_J0_coder_7d493 t_bs Q) : Met l yJ0_coder_7d493 ws_J0_coder_7d493 rm_J0_coder_7d493 (va_Pc [.ref q] (fun U => U.heap.size = sz ∧ va_P D vwCl (w_J0_coder_7d493 C q t_bs) U.heap ∧ va_K D vwCl (tyL C) U ∧ va_D (fun _ => True) (w_J0_coder_7d493 C q t_bs) ∧ TX (va_A (w_J0_coder_7d493 C q t_bs) sz) U U.heap ∧ StrC t_bs q (va_A (w_J0_coder_7d493 C q t_bs) sz) U U.heap)) (q_J0_coder_7d493 D C q t_bs Q (va_A (w_J0_coder_7d493 C q t_bs) sz)) 0 0 (va_A (w_J0_coder_7d493 C q t_bs) sz) := by
  refine Met.ofW (cc := cJ0_coder_7d493) (maxL := 1) (ret := (some .byte)) (by decide) rfl ?_
  intro p e s m args below meth c s₁ B hml hv
  obtain ⟨rfl, hsz, hP, hK, hD0, hT, hs_q⟩ := hv
  have hx := B.exec
  have hb := B.bytes
  have hr := B.returns
  have hts : ∀ w ∈ WALL, w.before _ s = true := fun w h => atoms_spec (ws := ws_J0_coder_7d493) B.pre w (List.mem_cons_of_mem _ h)
  have hown : s.vm.findClass RJ0 = some m.cls := findClass_of_methodNamed B.named
  have hlocks := B.notSynchronized
  subst hsz
  have hD := hD0.self (sz := s.heap.size)
  generalize hAe : va_A (w_J0_coder_7d493 C q t_bs) s.heap.size = A at hD ⊢ hT hs_q
  have hA : ∀ q : Nat, s.heap.size ≤ q → A q := fun q h => by rw [← hAe]; exact Or.inr h
  have hS : va_S A s.heap s.heap [] := va_S.rf
  have hl := lv_entry ([.ref q]) (n := 1) (Nat.le_of_ble_eq_true rfl)
  rw [lg_entry_eq]
  generalize (lg_sl ([.ref q]) ++ List.replicate (1 - (lg_sl ([.ref q])).length) Slot.unset).toArray = ls at hl ⊢
  have hl : lv_has ls 1 [(0, .ref q)] := hl
  unfold wp_J0_coder_7d493 at hwp
  obtain ⟨H, hH⟩ : ∃ H, H = s.heap := ⟨_, rfl⟩
  obtain ⟨locs, hlo⟩ : ∃ z : List Loc, z = [] := ⟨_, rfl⟩
  have hP : va_P D vwCl [] H := by rw [hH]; exact hP
  have hD : va_D A [] := hD
  have hS : va_S A s.heap H locs := by rw [hH, hlo]; exact hS
  suffices K : W p l e (headSpec ws_J0_coder_7d493 rm_J0_coder_7d493).room s m ([.ref q] : List Value).toArray below meth c H locs 0 0 (MQ below (q_J0_coder_7d493 D C q t_bs Q A) ([.ref q] : List Value).toArray s 0 0 A) (F0 m 0 ls []) from by rw [hH, hlo] at K; exact K
  refine va_gets hx hb hT.2.2.2.2.2.2.1 hS hown (hts (.fieldLink RJ0 38 "java/lang/String" "COMPACT_STRINGS" "Z") wd_587) (fun _ h9 => h9) dJ0_coder_7d493_0 ?_
  refine lv_if_eq (tgt := 13) hx hb dJ0_coder_7d493_3 (by decide) (fun c3 => ?_) (fun c3 => ?_)
  · exact absurd c3 (by decide)
  · refine lv_aload_n hx hb dJ0_coder_7d493_6 rfl (lv_at hl 0 rfl) ?_
    obtain ⟨q_v, ho_q, hc_q, hv_q, ht_q_v⟩ := id hs_q
    refine vk_getf hx hb hc_q hS hown (hts (.fieldLink RJ0 15 "java/lang/String" "coder" "B") wd_811) (fun _ h9 => h9) dJ0_coder_7d493_7 ?_
    refine lv_goto (tgt := 14) hx hb dJ0_coder_7d493_10 (by decide) ?_
    have hP9 := hP.sub (ws' := []) [] rfl
    have hD9 := hD.sub (ws' := []) [] (by decide) rfl
    exact W.zret (v := (0 : Int32)) (ty := .byte) hx hb hr rfl (fun t ht hW => ⟨⟨(0 : Int32), (), rfl, hwp, by rw [ht]; exact hP9, va_K.moved hW.alike hK, hD9⟩, hS.F ht⟩) hS.2.2 dJ0_coder_7d493_14
abbrev ws_J0_length_8abf5 : List Cond := .code yJ0_length_8abf5 cJ0_length_8abf5 1 (some .int) :: WALL
theorem gc_J0_335 : GoodIn WALL (wsV RJ0 335 RJ0 yJ0_coder_7d493 ws_J0_coder_7d493) := gc_v wd_583 wd_584 wd_585 wd_48 wd_586
abbrev rm_J0_length_8abf5 : Room := { frames := 1, cells := 0, slots := 0, locals := 20 }
abbrev w_J0_length_8abf5 (C : Nat → ClassId) (q : Nat) (t_bs : List Int32) : va_W := []
abbrev q_J0_length_8abf5 (D : va_G) (C : Nat → ClassId) (q : Nat) (t_bs : List Int32) (Q : Int32 → Prop) (A : Nat → Prop) : Array Value → State → Outcome → State → Prop := va_Qi (fun (r : Int32) (u : Unit) => Q r) (fun (u : Unit) (t : State) => va_P D vwCl (w_J0_length_8abf5 C q t_bs) t.heap ∧ va_K D vwCl (tyL C) t ∧ va_D A (w_J0_length_8abf5 C q t_bs)) A
set_option maxHeartbeats 4000000 in
set_option maxRecDepth 100000 in
theorem met_J0_length_8abf5 (l : Launch) (hst : l.stackTraces = false) (D : va_G) (C : Nat → ClassId) (q : Nat) (t_bs : List Int32) (sz : Nat) (Q : Int32 → Prop) (hwp : wp_J0_length_8abf5 t_bs Q) : Met l yJ0_length_8abf5 ws_J0_length_8abf5 rm_J0_length_8abf5 (va_Pc [.ref q] (fun U => U.heap.size = sz ∧ va_P D vwCl (w_J0_length_8abf5 C q t_bs) U.heap ∧ va_K D vwCl (tyL C) U ∧ va_D (fun _ => True) (w_J0_length_8abf5 C q t_bs) ∧ TX (va_A (w_J0_length_8abf5 C q t_bs) sz) U U.heap ∧ StrC t_bs q (va_A (w_J0_length_8abf5 C q t_bs) sz) U U.heap)) (q_J0_length_8abf5 D C q t_bs Q (va_A (w_J0_length_8abf5 C q t_bs) sz)) 0 0 (va_A (w_J0_length_8abf5 C q t_bs) sz) := by
  refine Met.ofW (cc := cJ0_length_8abf5) (maxL := 1) (ret := (some .int)) (by decide) rfl ?_
  intro p e s m args below meth c s₁ B hml hv
  obtain ⟨rfl, hsz, hP, hK, hD0, hT, hs_q⟩ := hv
  have hx := B.exec
  have hb := B.bytes
  have hr := B.returns
  have hts : ∀ w ∈ WALL, w.before _ s = true := fun w h => atoms_spec (ws := ws_J0_length_8abf5) B.pre w (List.mem_cons_of_mem _ h)
  have hown : s.vm.findClass RJ0 = some m.cls := findClass_of_methodNamed B.named
  have hlocks := B.notSynchronized
  subst hsz
  have hD := hD0.self (sz := s.heap.size)
  generalize hAe : va_A (w_J0_length_8abf5 C q t_bs) s.heap.size = A at hD ⊢ hT hs_q
  have hA : ∀ q : Nat, s.heap.size ≤ q → A q := fun q h => by rw [← hAe]; exact Or.inr h
  have hS : va_S A s.heap s.heap [] := va_S.rf
  have hl := lv_entry ([.ref q]) (n := 1) (Nat.le_of_ble_eq_true rfl)
  rw [lg_entry_eq]
  generalize (lg_sl ([.ref q]) ++ List.replicate (1 - (lg_sl ([.ref q])).length) Slot.unset).toArray = ls at hl ⊢
  have hl : lv_has ls 1 [(0, .ref q)] := hl
  unfold wp_J0_length_8abf5 at hwp
  obtain ⟨H, hH⟩ : ∃ H, H = s.heap := ⟨_, rfl⟩
  obtain ⟨locs, hlo⟩ : ∃ z : List Loc, z = [] := ⟨_, rfl⟩
  have hP : va_P D vwCl [] H := by rw [hH]; exact hP
  have hD : va_D A [] := hD
  have hS : va_S A s.heap H locs := by rw [hH, hlo]; exact hS
  suffices K : W p l e (headSpec ws_J0_length_8abf5 rm_J0_length_8abf5).room s m ([.ref q] : List Value).toArray below meth c H locs 0 0 (MQ below (q_J0_length_8abf5 D C q t_bs Q A) ([.ref q] : List Value).toArray s 0 0 A) (F0 m 0 ls []) from by rw [hH, hlo] at K; exact K
  refine lv_aload_n hx hb dJ0_length_8abf5_0 rfl (lv_at hl 0 rfl) ?_
  obtain ⟨q_v, ho_q, hc_q, hv_q, ht_q_v⟩ := id hs_q
  refine vk_getf hx hb hv_q hS hown (hts (.fieldLink RJ0 9 "java/lang/String" "value" "[B") wd_810) (fun _ h9 => h9) dJ0_length_8abf5_1 ?_
  refine va_tlen (v := Int32.ofNat t_bs.length) hx hb ht_q_v hS rfl dJ0_length_8abf5_4 ?_
  refine lv_aload_n hx hb dJ0_length_8abf5_5 rfl (lv_at hl 0 rfl) ?_
  have hPc := hP.sub (ws' := []) [] rfl
  have hDc := hD.sub (ws' := []) [] (by decide) rfl
  have hFc := va_free (wc := []) hD hS hA [] rfl
  refine va_calli (va_runV (As := []) (rest := [.int (Int32.ofNat t_bs.length)]) ⟨hx, hb, hml, hown, hts⟩ (met_J0_coder_7d493 l hst D C q t_bs H.size (fun r => r = (0 : Int32)) rfl) (cwV 0 hts gc_J0_335 rfl rfl rfl (by decide +kernel) ⟨Nat.le_of_ble_eq_true rfl, Nat.le_of_ble_eq_true rfl⟩) ⟨fun a U g mk q => by obtain ⟨q0, q1, qP, qK, qD, qT, qS_q⟩ := q; exact ⟨q0, q1, qP, va_K.moved (u := U) (U := U.calling g mk a) (Vm.Alike.refl U.vm) qK, qD, qT.mv (U := U.calling g mk a) (State.WarmedH.refl U), qS_q.moved (U := U.calling g mk a) (Vm.Alike.refl U.vm)⟩, hs_q.recv hS, fun U hU hW => ⟨rfl, by rw [hU], by rw [hU]; exact hPc, va_K.moved hW.alike hK, hDc.weaken (fun _ _ _ _ => trivial), hT.call hS hFc hU hW, hs_q.call hS hFc hU hW⟩⟩ rfl rfl hl.1 rfl (lv_room (Nat.le_of_ble_eq_true rfl)) dJ0_length_8abf5_6 ⟨Nat.zero_le _, Nat.zero_le _⟩) hS (fun q _ h => hFc q h) hFc (fun r6 u t H1 locs ht hvm hwc hB hz1 hk1 hS => ?_)
  obtain rfl := hwc
  obtain ⟨hP1, -, hD1⟩ := hB
  rw [ht] at hP1
  obtain ⟨hP, hD⟩ := va_join (wr := []) (w1 := []) hP hD [] [] rfl rfl (by decide) (by decide) hk1 hFc hP1 hD1
  generalize H1 = H at hP hS ⊢
  have hP : va_P D vwCl [] H := hP
  have hD : va_D A [] := hD
  refine lv_ishr hx hb dJ0_length_8abf5_9 ?_
  have hP9 := hP.sub (ws' := []) [] rfl
  have hD9 := hD.sub (ws' := []) [] (by decide) rfl
  exact W.iret (v := (Int32.ofNat t_bs.length) >>> ((0 : Int32) &&& 31)) hx hb hr (fun t ht hW => ⟨⟨(Int32.ofNat t_bs.length) >>> ((0 : Int32) &&& 31), (), rfl, hwp, by rw [ht]; exact hP9, va_K.moved hW.alike hK, hD9⟩, hS.F ht⟩) hS.2.2 dJ0_length_8abf5_10
abbrev ws_J0_isLatin1_aae02 : List Cond := .code yJ0_isLatin1_aae02 cJ0_isLatin1_aae02 1 (some .boolean) :: WALL
abbrev rm_J0_isLatin1_aae02 : Room := { frames := 0, cells := 0, slots := 0, locals := 0 }
abbrev w_J0_isLatin1_aae02 (C : Nat → ClassId) (q : Nat) (t_bs : List Int32) : va_W := []
abbrev q_J0_isLatin1_aae02 (D : va_G) (C : Nat → ClassId) (q : Nat) (t_bs : List Int32) (Q : Int32 → Prop) (A : Nat → Prop) : Array Value → State → Outcome → State → Prop := va_Qi (fun (r : Int32) (u : Unit) => Q r) (fun (u : Unit) (t : State) => va_P D vwCl (w_J0_isLatin1_aae02 C q t_bs) t.heap ∧ va_K D vwCl (tyL C) t ∧ va_D A (w_J0_isLatin1_aae02 C q t_bs)) A
set_option maxHeartbeats 4000000 in
set_option maxRecDepth 100000 in
theorem met_J0_isLatin1_aae02 (l : Launch) (hst : l.stackTraces = false) (D : va_G) (C : Nat → ClassId) (q : Nat) (t_bs : List Int32) (sz : Nat) (Q : Int32 → Prop) (hwp : wp_J0_isLatin1_aae02 t_bs Q) : Met l yJ0_isLatin1_aae02 ws_J0_isLatin1_aae02 rm_J0_isLatin1_aae02 (va_Pc [.ref q] (fun U => U.heap.size = sz ∧ va_P D vwCl (w_J0_isLatin1_aae02 C q t_bs) U.heap ∧ va_K D vwCl (tyL C) U ∧ va_D (fun _ => True) (w_J0_isLatin1_aae02 C q t_bs) ∧ TX (va_A (w_J0_isLatin1_aae02 C q t_bs) sz) U U.heap ∧ StrC t_bs q (va_A (w_J0_isLatin1_aae02 C q t_bs) sz) U U.heap)) (q_J0_isLatin1_aae02 D C q t_bs Q (va_A (w_J0_isLatin1_aae02 C q t_bs) sz)) 0 0 (va_A (w_J0_isLatin1_aae02 C q t_bs) sz) := by
  refine Met.ofW (cc := cJ0_isLatin1_aae02) (maxL := 1) (ret := (some .boolean)) (by decide) rfl ?_
  intro p e s m args below meth c s₁ B hml hv
  obtain ⟨rfl, hsz, hP, hK, hD0, hT, hs_q⟩ := hv
  have hx := B.exec
  have hb := B.bytes
  have hr := B.returns
  have hts : ∀ w ∈ WALL, w.before _ s = true := fun w h => atoms_spec (ws := ws_J0_isLatin1_aae02) B.pre w (List.mem_cons_of_mem _ h)
  have hown : s.vm.findClass RJ0 = some m.cls := findClass_of_methodNamed B.named
  have hlocks := B.notSynchronized
  subst hsz
  have hD := hD0.self (sz := s.heap.size)
  generalize hAe : va_A (w_J0_isLatin1_aae02 C q t_bs) s.heap.size = A at hD ⊢ hT hs_q
  have hA : ∀ q : Nat, s.heap.size ≤ q → A q := fun q h => by rw [← hAe]; exact Or.inr h
  have hS : va_S A s.heap s.heap [] := va_S.rf
  have hl := lv_entry ([.ref q]) (n := 1) (Nat.le_of_ble_eq_true rfl)
  rw [lg_entry_eq]
  generalize (lg_sl ([.ref q]) ++ List.replicate (1 - (lg_sl ([.ref q])).length) Slot.unset).toArray = ls at hl ⊢
  have hl : lv_has ls 1 [(0, .ref q)] := hl
  unfold wp_J0_isLatin1_aae02 at hwp
  obtain ⟨H, hH⟩ : ∃ H, H = s.heap := ⟨_, rfl⟩
  obtain ⟨locs, hlo⟩ : ∃ z : List Loc, z = [] := ⟨_, rfl⟩
  have hP : va_P D vwCl [] H := by rw [hH]; exact hP
  have hD : va_D A [] := hD
  have hS : va_S A s.heap H locs := by rw [hH, hlo]; exact hS
  suffices K : W p l e (headSpec ws_J0_isLatin1_aae02 rm_J0_isLatin1_aae02).room s m ([.ref q] : List Value).toArray below meth c H locs 0 0 (MQ below (q_J0_isLatin1_aae02 D C q t_bs Q A) ([.ref q] : List Value).toArray s 0 0 A) (F0 m 0 ls []) from by rw [hH, hlo] at K; exact K
  refine va_gets hx hb hT.2.2.2.2.2.2.1 hS hown (hts (.fieldLink RJ0 38 "java/lang/String" "COMPACT_STRINGS" "Z") wd_587) (fun _ h9 => h9) dJ0_isLatin1_aae02_0 ?_
  refine lv_if_eq (tgt := 17) hx hb dJ0_isLatin1_aae02_3 (by decide) (fun c3 => ?_) (fun c3 => ?_)
  · exact absurd c3 (by decide)
  · refine lv_aload_n hx hb dJ0_isLatin1_aae02_6 rfl (lv_at hl 0 rfl) ?_
    obtain ⟨q_v, ho_q, hc_q, hv_q, ht_q_v⟩ := id hs_q
    refine vk_getf hx hb hc_q hS hown (hts (.fieldLink RJ0 15 "java/lang/String" "coder" "B") wd_811) (fun _ h9 => h9) dJ0_isLatin1_aae02_7 ?_
    refine lv_if_ne (tgt := 17) hx hb dJ0_isLatin1_aae02_10 (by decide) (fun c10 => ?_) (fun c10 => ?_)
    · exact absurd c10 (by decide)
    · refine lv_iconst (v := 1) hx hb dJ0_isLatin1_aae02_13 (by decide) ?_
      refine lv_goto (tgt := 18) hx hb dJ0_isLatin1_aae02_14 (by decide) ?_
      have hP9 := hP.sub (ws' := []) [] rfl
      have hD9 := hD.sub (ws' := []) [] (by decide) rfl
      exact W.zret (v := (1 : Int32)) (ty := .boolean) hx hb hr rfl (fun t ht hW => ⟨⟨(1 : Int32), (), rfl, hwp, by rw [ht]; exact hP9, va_K.moved hW.alike hK, hD9⟩, hS.F ht⟩) hS.2.2 dJ0_isLatin1_aae02_18
abbrev ws_J3_checkIndex_8e157 : List Cond := .code yJ3_checkIndex_8e157 cJ3_checkIndex_8e157 3 (some .int) :: WALL
abbrev rm_J3_checkIndex_8e157 : Room := { frames := 0, cells := 0, slots := 0, locals := 0 }
abbrev w_J3_checkIndex_8e157 (C : Nat → ClassId) : va_W := []
abbrev q_J3_checkIndex_8e157 (D : va_G) (C : Nat → ClassId) (Q : Int32 → Prop) (A : Nat → Prop) : Array Value → State → Outcome → State → Prop := va_Qi (fun (r : Int32) (u : Unit) => Q r) (fun (u : Unit) (t : State) => va_P D vwCl (w_J3_checkIndex_8e157 C ) t.heap ∧ va_K D vwCl (tyL C) t ∧ va_D A (w_J3_checkIndex_8e157 C )) A
set_option maxHeartbeats 4000000 in
set_option maxRecDepth 100000 in
theorem met_J3_checkIndex_8e157 (l : Launch) (D : va_G) (C : Nat → ClassId) (p0 : Int32) (p1 : Int32) (p2 : Value) (hany : p2 = .null ∨ ∃ t : Nat, p2 = .ref t) (sz : Nat) (Q : Int32 → Prop) (hwp : wp_J3_checkIndex_8e157 p0 p1 Q) : Met l yJ3_checkIndex_8e157 ws_J3_checkIndex_8e157 rm_J3_checkIndex_8e157 (va_Pc [.int p0, .int p1, p2] (fun U => U.heap.size = sz ∧ va_P D vwCl (w_J3_checkIndex_8e157 C ) U.heap ∧ va_K D vwCl (tyL C) U ∧ va_D (fun _ => True) (w_J3_checkIndex_8e157 C ))) (q_J3_checkIndex_8e157 D C  Q (va_A (w_J3_checkIndex_8e157 C ) sz)) 0 0 (va_A (w_J3_checkIndex_8e157 C ) sz) := by
  rcases hany with rfl | ⟨tz, rfl⟩
  · refine Met.ofW (cc := cJ3_checkIndex_8e157) (maxL := 3) (ret := (some .int)) (by decide) rfl ?_
    intro p e s m args below meth c s₁ B hml hv
    obtain ⟨rfl, hsz, hP, hK, hD0⟩ := hv
    have hx := B.exec
    have hb := B.bytes
    have hr := B.returns
    have hts : ∀ w ∈ WALL, w.before _ s = true := fun w h => atoms_spec (ws := ws_J3_checkIndex_8e157) B.pre w (List.mem_cons_of_mem _ h)
    have hown : s.vm.findClass RJ3 = some m.cls := findClass_of_methodNamed B.named
    have hlocks := B.notSynchronized
    subst hsz
    have hD := hD0.self (sz := s.heap.size)
    generalize hAe : va_A (w_J3_checkIndex_8e157 C ) s.heap.size = A at hD ⊢
    have hA : ∀ q : Nat, s.heap.size ≤ q → A q := fun q h => by rw [← hAe]; exact Or.inr h
    have hS : va_S A s.heap s.heap [] := va_S.rf
    have hl := lv_entry ([.int p0, .int p1, .null]) (n := 3) (Nat.le_of_ble_eq_true rfl)
    rw [lg_entry_eq]
    generalize (lg_sl ([.int p0, .int p1, .null]) ++ List.replicate (3 - (lg_sl ([.int p0, .int p1, .null])).length) Slot.unset).toArray = ls at hl ⊢
    have hl : lv_has ls 3 [(0, .int p0), (1, .int p1), (2, .null)] := hl
    unfold wp_J3_checkIndex_8e157 at hwp
    obtain ⟨H, hH⟩ : ∃ H, H = s.heap := ⟨_, rfl⟩
    obtain ⟨locs, hlo⟩ : ∃ z : List Loc, z = [] := ⟨_, rfl⟩
    have hP : va_P D vwCl [] H := by rw [hH]; exact hP
    have hD : va_D A [] := hD
    have hS : va_S A s.heap H locs := by rw [hH, hlo]; exact hS
    suffices K : W p l e (headSpec ws_J3_checkIndex_8e157 rm_J3_checkIndex_8e157).room s m ([.int p0, .int p1, .null] : List Value).toArray below meth c H locs 0 0 (MQ below (q_J3_checkIndex_8e157 D C Q A) ([.int p0, .int p1, .null] : List Value).toArray s 0 0 A) (F0 m 0 ls []) from by rw [hH, hlo] at K; exact K
    refine lv_iload_n hx hb dJ3_checkIndex_8e157_0 rfl (lv_at hl 0 rfl) ?_
    refine lv_if_lt (tgt := 9) hx hb dJ3_checkIndex_8e157_1 (by decide) (fun c1 => ?_) (fun c1 => ?_)
    · have hwp := hwp.1 c1
      exact hwp.elim
    · have hwp := hwp.2 c1
      refine lv_iload_n hx hb dJ3_checkIndex_8e157_4 rfl (lv_at hl 0 rfl) ?_
      refine lv_iload_n hx hb dJ3_checkIndex_8e157_5 rfl (lv_at hl 1 rfl) ?_
      refine lv_icmp_lt (tgt := 16) hx hb dJ3_checkIndex_8e157_6 (by decide) (fun c6 => ?_) (fun c6 => ?_)
      · have hwp := hwp.1 c6
        refine lv_iload_n hx hb dJ3_checkIndex_8e157_16 rfl (lv_at hl 0 rfl) ?_
        have hP9 := hP.sub (ws' := []) [] rfl
        have hD9 := hD.sub (ws' := []) [] (by decide) rfl
        exact W.iret (v := p0) hx hb hr (fun t ht hW => ⟨⟨p0, (), rfl, hwp, by rw [ht]; exact hP9, va_K.moved hW.alike hK, hD9⟩, hS.F ht⟩) hS.2.2 dJ3_checkIndex_8e157_17
      · have hwp := hwp.2 c6
        exact hwp.elim
  · refine Met.ofW (cc := cJ3_checkIndex_8e157) (maxL := 3) (ret := (some .int)) (by decide) rfl ?_
    intro p e s m args below meth c s₁ B hml hv
    obtain ⟨rfl, hsz, hP, hK, hD0⟩ := hv
    have hx := B.exec
    have hb := B.bytes
    have hr := B.returns
    have hts : ∀ w ∈ WALL, w.before _ s = true := fun w h => atoms_spec (ws := ws_J3_checkIndex_8e157) B.pre w (List.mem_cons_of_mem _ h)
    have hown : s.vm.findClass RJ3 = some m.cls := findClass_of_methodNamed B.named
    have hlocks := B.notSynchronized
    subst hsz
    have hD := hD0.self (sz := s.heap.size)
    generalize hAe : va_A (w_J3_checkIndex_8e157 C ) s.heap.size = A at hD ⊢
    have hA : ∀ q : Nat, s.heap.size ≤ q → A q := fun q h => by rw [← hAe]; exact Or.inr h
    have hS : va_S A s.heap s.heap [] := va_S.rf
    have hl := lv_entry ([.int p0, .int p1, .ref tz]) (n := 3) (Nat.le_of_ble_eq_true rfl)
    rw [lg_entry_eq]
    generalize (lg_sl ([.int p0, .int p1, .ref tz]) ++ List.replicate (3 - (lg_sl ([.int p0, .int p1, .ref tz])).length) Slot.unset).toArray = ls at hl ⊢
    have hl : lv_has ls 3 [(0, .int p0), (1, .int p1), (2, .ref tz)] := hl
    unfold wp_J3_checkIndex_8e157 at hwp
    obtain ⟨H, hH⟩ : ∃ H, H = s.heap := ⟨_, rfl⟩
    obtain ⟨locs, hlo⟩ : ∃ z : List Loc, z = [] := ⟨_, rfl⟩
    have hP : va_P D vwCl [] H := by rw [hH]; exact hP
    have hD : va_D A [] := hD
    have hS : va_S A s.heap H locs := by rw [hH, hlo]; exact hS
    suffices K : W p l e (headSpec ws_J3_checkIndex_8e157 rm_J3_checkIndex_8e157).room s m ([.int p0, .int p1, .ref tz] : List Value).toArray below meth c H locs 0 0 (MQ below (q_J3_checkIndex_8e157 D C Q A) ([.int p0, .int p1, .ref tz] : List Value).toArray s 0 0 A) (F0 m 0 ls []) from by rw [hH, hlo] at K; exact K
    refine lv_iload_n hx hb dJ3_checkIndex_8e157_0 rfl (lv_at hl 0 rfl) ?_
    refine lv_if_lt (tgt := 9) hx hb dJ3_checkIndex_8e157_1 (by decide) (fun c1 => ?_) (fun c1 => ?_)
    · have hwp := hwp.1 c1
      exact hwp.elim
    · have hwp := hwp.2 c1
      refine lv_iload_n hx hb dJ3_checkIndex_8e157_4 rfl (lv_at hl 0 rfl) ?_
      refine lv_iload_n hx hb dJ3_checkIndex_8e157_5 rfl (lv_at hl 1 rfl) ?_
      refine lv_icmp_lt (tgt := 16) hx hb dJ3_checkIndex_8e157_6 (by decide) (fun c6 => ?_) (fun c6 => ?_)
      · have hwp := hwp.1 c6
        refine lv_iload_n hx hb dJ3_checkIndex_8e157_16 rfl (lv_at hl 0 rfl) ?_
        have hP9 := hP.sub (ws' := []) [] rfl
        have hD9 := hD.sub (ws' := []) [] (by decide) rfl
        exact W.iret (v := p0) hx hb hr (fun t ht hW => ⟨⟨p0, (), rfl, hwp, by rw [ht]; exact hP9, va_K.moved hW.alike hK, hD9⟩, hS.F ht⟩) hS.2.2 dJ3_checkIndex_8e157_17
      · have hwp := hwp.2 c6
        exact hwp.elim
abbrev ws_J0_checkIndex_df160 : List Cond := .code yJ0_checkIndex_df160 cJ0_checkIndex_df160 2 none :: WALL
theorem gc_J0_1059 : GoodIn WALL (va_wsS RJ0 1059 yJ3_checkIndex_8e157 ws_J3_checkIndex_8e157) := gc_s wd_842 wd_843 wd_54 wd_844
abbrev rm_J0_checkIndex_df160 : Room := { frames := 1, cells := 0, slots := 0, locals := 22 }
abbrev w_J0_checkIndex_df160 (C : Nat → ClassId) : va_W := []
abbrev q_J0_checkIndex_df160 (D : va_G) (C : Nat → ClassId) (Q : Prop) (A : Nat → Prop) : Array Value → State → Outcome → State → Prop := va_Qv (fun (u : Unit) => Q) (fun (u : Unit) (t : State) => va_P D vwCl (w_J0_checkIndex_df160 C ) t.heap ∧ va_K D vwCl (tyL C) t ∧ va_D A (w_J0_checkIndex_df160 C )) A
set_option maxHeartbeats 4000000 in
set_option maxRecDepth 100000 in
theorem met_J0_checkIndex_df160 (l : Launch) (hst : l.stackTraces = false) (D : va_G) (C : Nat → ClassId) (p0 : Int32) (p1 : Int32) (sz : Nat) (Q : Prop) (hwp : wp_J0_checkIndex_df160 p0 p1 Q) : Met l yJ0_checkIndex_df160 ws_J0_checkIndex_df160 rm_J0_checkIndex_df160 (va_Pc [.int p0, .int p1] (fun U => U.heap.size = sz ∧ va_P D vwCl (w_J0_checkIndex_df160 C ) U.heap ∧ va_K D vwCl (tyL C) U ∧ va_D (fun _ => True) (w_J0_checkIndex_df160 C ) ∧ TX (va_A (w_J0_checkIndex_df160 C ) sz) U U.heap)) (q_J0_checkIndex_df160 D C  Q (va_A (w_J0_checkIndex_df160 C ) sz)) 0 0 (va_A (w_J0_checkIndex_df160 C ) sz) := by
  refine Met.ofW (cc := cJ0_checkIndex_df160) (maxL := 2) (ret := none) (by decide) rfl ?_
  intro p e s m args below meth c s₁ B hml hv
  obtain ⟨rfl, hsz, hP, hK, hD0, hT⟩ := hv
  have hx := B.exec
  have hb := B.bytes
  have hr := B.returns
  have hts : ∀ w ∈ WALL, w.before _ s = true := fun w h => atoms_spec (ws := ws_J0_checkIndex_df160) B.pre w (List.mem_cons_of_mem _ h)
  have hown : s.vm.findClass RJ0 = some m.cls := findClass_of_methodNamed B.named
  have hlocks := B.notSynchronized
  subst hsz
  have hD := hD0.self (sz := s.heap.size)
  generalize hAe : va_A (w_J0_checkIndex_df160 C ) s.heap.size = A at hD ⊢ hT
  have hA : ∀ q : Nat, s.heap.size ≤ q → A q := fun q h => by rw [← hAe]; exact Or.inr h
  have hS : va_S A s.heap s.heap [] := va_S.rf
  have hl := lv_entry ([.int p0, .int p1]) (n := 2) (Nat.le_of_ble_eq_true rfl)
  rw [lg_entry_eq]
  generalize (lg_sl ([.int p0, .int p1]) ++ List.replicate (2 - (lg_sl ([.int p0, .int p1])).length) Slot.unset).toArray = ls at hl ⊢
  have hl : lv_has ls 2 [(0, .int p0), (1, .int p1)] := hl
  unfold wp_J0_checkIndex_df160 at hwp
  obtain ⟨H, hH⟩ : ∃ H, H = s.heap := ⟨_, rfl⟩
  obtain ⟨locs, hlo⟩ : ∃ z : List Loc, z = [] := ⟨_, rfl⟩
  have hP : va_P D vwCl [] H := by rw [hH]; exact hP
  have hD : va_D A [] := hD
  have hS : va_S A s.heap H locs := by rw [hH, hlo]; exact hS
  suffices K : W p l e (headSpec ws_J0_checkIndex_df160 rm_J0_checkIndex_df160).room s m ([.int p0, .int p1] : List Value).toArray below meth c H locs 0 0 (MQ below (q_J0_checkIndex_df160 D C Q A) ([.int p0, .int p1] : List Value).toArray s 0 0 A) (F0 m 0 ls []) from by rw [hH, hlo] at K; exact K
  refine lv_iload_n hx hb dJ0_checkIndex_df160_0 rfl (lv_at hl 0 rfl) ?_
  refine lv_iload_n hx hb dJ0_checkIndex_df160_1 rfl (lv_at hl 1 rfl) ?_
  obtain ⟨vz, hzv, hany⟩ : ∃ v : Value, va_Z "jdk/internal/util/Preconditions" "SIOOBE_FORMATTER" "Ljava/util/function/BiFunction;" v A s s.heap ∧ (v = .null ∨ ∃ t : Nat, v = .ref t) := by
    rcases hT.2.2.2.2.2.2.2.1 with h9 | ⟨t9, h9⟩
    · exact ⟨_, h9, Or.inl rfl⟩
    · exact ⟨_, h9, Or.inr ⟨t9, rfl⟩⟩
  refine va_gets hx hb hzv hS hown (hts (.fieldLink RJ0 1053 "jdk/internal/util/Preconditions" "SIOOBE_FORMATTER" "Ljava/util/function/BiFunction;") wd_666) (fun _ h9 => h9) dJ0_checkIndex_df160_2 ?_
  have hPc := hP.sub (ws' := []) [] rfl
  have hDc := hD.sub (ws' := []) [] (by decide) rfl
  have hFc := va_free (wc := []) hD hS hA [] rfl
  refine va_calli (va_runS (As := [.int p0, .int p1, vz]) (rest := []) ⟨hx, hb, hml, hown, hts⟩ (met_J3_checkIndex_8e157 l D C p0 p1 vz hany H.size _ hwp) (va_cwS 3 hts gc_J0_1059 rfl rfl rfl (by decide +kernel) ⟨Nat.le_of_ble_eq_true rfl, Nat.le_of_ble_eq_true rfl⟩) ⟨fun a U g mk q => by obtain ⟨q0, q1, qP, qK, qD⟩ := q; exact ⟨q0, q1, qP, va_K.moved (u := U) (U := U.calling g mk a) (Vm.Alike.refl U.vm) qK, qD⟩, fun U hU hW => ⟨rfl, by rw [hU], by rw [hU]; exact hPc, va_K.moved hW.alike hK, hDc.weaken (fun _ _ _ _ => trivial)⟩⟩ rfl rfl hl.1 rfl (lv_room (Nat.le_of_ble_eq_true rfl)) dJ0_checkIndex_df160_5 ⟨Nat.zero_le _, Nat.zero_le _⟩) hS (fun q _ h => hFc q h) hFc (fun r5 u t H1 locs ht hvm hwp hB hz1 hk1 hS => ?_)
  obtain ⟨hP1, -, hD1⟩ := hB
  rw [ht] at hP1
  obtain ⟨hP, hD⟩ := va_join (wr := []) (w1 := []) hP hD [] [] rfl rfl (by decide) (by decide) hk1 hFc hP1 hD1
  generalize H1 = H at hP hS ⊢
  have hP : va_P D vwCl [] H := hP
  have hD : va_D A [] := hD
  refine lv_pop hx hb dJ0_checkIndex_df160_8 rfl ?_
  have hP9 := hP.sub (ws' := []) [] rfl
  have hD9 := hD.sub (ws' := []) [] (by decide) rfl
  exact W.vret hx hb hr (fun t ht hW => ⟨⟨(), rfl, hwp, by rw [ht]; exact hP9, va_K.moved hW.alike hK, hD9⟩, hS.F ht⟩) hS.2.2 dJ0_checkIndex_df160_9
abbrev ws_J1_charAt_3b067 : List Cond := .code yJ1_charAt_3b067 cJ1_charAt_3b067 2 (some .char) :: WALL
theorem gc_J1_9 : GoodIn WALL (va_wsS RJ1 9 yJ0_checkIndex_df160 ws_J0_checkIndex_df160) := gc_s wd_839 wd_840 wd_48 wd_841
abbrev rm_J1_charAt_3b067 : Room := { frames := 2, cells := 0, slots := 0, locals := 43 }
abbrev w_J1_charAt_3b067 (C : Nat → ClassId) (q0 : Nat) (t0_bs : List Int32) : va_W := []
abbrev q_J1_charAt_3b067 (D : va_G) (C : Nat → ClassId) (q0 : Nat) (t0_bs : List Int32) (Q : Int32 → Prop) (A : Nat → Prop) : Array Value → State → Outcome → State → Prop := va_Qi (fun (r : Int32) (u : Unit) => Q r) (fun (u : Unit) (t : State) => va_P D vwCl (w_J1_charAt_3b067 C q0 t0_bs) t.heap ∧ va_K D vwCl (tyL C) t ∧ va_D A (w_J1_charAt_3b067 C q0 t0_bs)) A
set_option maxHeartbeats 4000000 in
set_option maxRecDepth 100000 in
theorem met_J1_charAt_3b067 (l : Launch) (hst : l.stackTraces = false) (D : va_G) (C : Nat → ClassId) (q0 : Nat) (p1 : Int32) (t0_bs : List Int32) (sz : Nat) (Q : Int32 → Prop) (hwp : wp_J1_charAt_3b067 p1 t0_bs Q) : Met l yJ1_charAt_3b067 ws_J1_charAt_3b067 rm_J1_charAt_3b067 (va_Pc [.ref q0, .int p1] (fun U => U.heap.size = sz ∧ va_P D vwCl (w_J1_charAt_3b067 C q0 t0_bs) U.heap ∧ va_K D vwCl (tyL C) U ∧ va_D (fun _ => True) (w_J1_charAt_3b067 C q0 t0_bs) ∧ TX (va_A (w_J1_charAt_3b067 C q0 t0_bs) sz) U U.heap ∧ ArrC t0_bs q0 (va_A (w_J1_charAt_3b067 C q0 t0_bs) sz) U U.heap)) (q_J1_charAt_3b067 D C q0 t0_bs Q (va_A (w_J1_charAt_3b067 C q0 t0_bs) sz)) 0 0 (va_A (w_J1_charAt_3b067 C q0 t0_bs) sz) := by
  refine Met.ofW (cc := cJ1_charAt_3b067) (maxL := 2) (ret := (some .char)) (by decide) rfl ?_
  intro p e s m args below meth c s₁ B hml hv
  obtain ⟨rfl, hsz, hP, hK, hD0, hT, ht_q0⟩ := hv
  have hx := B.exec
  have hb := B.bytes
  have hr := B.returns
  have hts : ∀ w ∈ WALL, w.before _ s = true := fun w h => atoms_spec (ws := ws_J1_charAt_3b067) B.pre w (List.mem_cons_of_mem _ h)
  have hown : s.vm.findClass RJ1 = some m.cls := findClass_of_methodNamed B.named
  have hlocks := B.notSynchronized
  subst hsz
  have hD := hD0.self (sz := s.heap.size)
  generalize hAe : va_A (w_J1_charAt_3b067 C q0 t0_bs) s.heap.size = A at hD ⊢ hT ht_q0
  have hA : ∀ q : Nat, s.heap.size ≤ q → A q := fun q h => by rw [← hAe]; exact Or.inr h
  have hS : va_S A s.heap s.heap [] := va_S.rf
  have hl := lv_entry ([.ref q0, .int p1]) (n := 2) (Nat.le_of_ble_eq_true rfl)
  rw [lg_entry_eq]
  generalize (lg_sl ([.ref q0, .int p1]) ++ List.replicate (2 - (lg_sl ([.ref q0, .int p1])).length) Slot.unset).toArray = ls at hl ⊢
  have hl : lv_has ls 2 [(0, .ref q0), (1, .int p1)] := hl
  unfold wp_J1_charAt_3b067 at hwp
  obtain ⟨H, hH⟩ : ∃ H, H = s.heap := ⟨_, rfl⟩
  obtain ⟨locs, hlo⟩ : ∃ z : List Loc, z = [] := ⟨_, rfl⟩
  have hP : va_P D vwCl [] H := by rw [hH]; exact hP
  have hD : va_D A [] := hD
  have hS : va_S A s.heap H locs := by rw [hH, hlo]; exact hS
  suffices K : W p l e (headSpec ws_J1_charAt_3b067 rm_J1_charAt_3b067).room s m ([.ref q0, .int p1] : List Value).toArray below meth c H locs 0 0 (MQ below (q_J1_charAt_3b067 D C q0 t0_bs Q A) ([.ref q0, .int p1] : List Value).toArray s 0 0 A) (F0 m 0 ls []) from by rw [hH, hlo] at K; exact K
  refine lv_iload_n hx hb dJ1_charAt_3b067_0 rfl (lv_at hl 1 rfl) ?_
  refine lv_aload_n hx hb dJ1_charAt_3b067_1 rfl (lv_at hl 0 rfl) ?_
  refine va_tlen (v := Int32.ofNat t0_bs.length) hx hb ht_q0 hS rfl dJ1_charAt_3b067_2 ?_
  have hPc := hP.sub (ws' := []) [] rfl
  have hDc := hD.sub (ws' := []) [] (by decide) rfl
  have hFc := va_free (wc := []) hD hS hA [] rfl
  refine va_callv (va_runS (As := [.int p1, .int (Int32.ofNat t0_bs.length)]) (rest := []) ⟨hx, hb, hml, hown, hts⟩ (met_J0_checkIndex_df160 l hst D C p1 (Int32.ofNat t0_bs.length) H.size _ hwp) (va_cwS 2 hts gc_J1_9 rfl rfl rfl (by decide +kernel) ⟨Nat.le_of_ble_eq_true rfl, Nat.le_of_ble_eq_true rfl⟩) ⟨fun a U g mk q => by obtain ⟨q0, q1, qP, qK, qD, qT⟩ := q; exact ⟨q0, q1, qP, va_K.moved (u := U) (U := U.calling g mk a) (Vm.Alike.refl U.vm) qK, qD, qT.mv (U := U.calling g mk a) (State.WarmedH.refl U)⟩, fun U hU hW => ⟨rfl, by rw [hU], by rw [hU]; exact hPc, va_K.moved hW.alike hK, hDc.weaken (fun _ _ _ _ => trivial), hT.call hS hFc hU hW⟩⟩ rfl rfl hl.1 rfl (lv_room (Nat.le_of_ble_eq_true rfl)) dJ1_charAt_3b067_3 ⟨Nat.zero_le _, Nat.zero_le _⟩) hS (fun q _ h => hFc q h) hFc (fun u t H1 locs ht hvm hwp hB hz1 hk1 hS => ?_)
  obtain ⟨hP1, -, hD1⟩ := hB
  rw [ht] at hP1
  obtain ⟨hP, hD⟩ := va_join (wr := []) (w1 := []) hP hD [] [] rfl rfl (by decide) (by decide) hk1 hFc hP1 hD1
  generalize H1 = H at hP hS ⊢
  have hP : va_P D vwCl [] H := hP
  have hD : va_D A [] := hD
  refine lv_aload_n hx hb dJ1_charAt_3b067_6 rfl (lv_at hl 0 rfl) ?_
  refine lv_iload_n hx hb dJ1_charAt_3b067_7 rfl (lv_at hl 1 rfl) ?_
  obtain ⟨hi8, hwp⟩ := hwp
  refine va_tb (v := .int (t0_bs.getD p1.toNatClampNeg 0)) hx hb ht_q0 hS hi8 rfl dJ1_charAt_3b067_8 ?_
  refine lv_sipush (v := 255) hx hb dJ1_charAt_3b067_9 (by decide) ?_
  refine lv_iand hx hb dJ1_charAt_3b067_12 ?_
  refine lv_i2c (v := (((t0_bs.getD p1.toNatClampNeg 0) &&& (255 : Int32)).toUInt32 % 65536).toInt32) hx hb dJ1_charAt_3b067_13 rfl ?_
  have hP9 := hP.sub (ws' := []) [] rfl
  have hD9 := hD.sub (ws' := []) [] (by decide) rfl
  obtain ⟨hn9, hwp⟩ := hwp
  exact W.zret (v := (((t0_bs.getD p1.toNatClampNeg 0) &&& (255 : Int32)).toUInt32 % 65536).toInt32) (ty := .char) hx hb hr hn9 (fun t ht hW => ⟨⟨(((t0_bs.getD p1.toNatClampNeg 0) &&& (255 : Int32)).toUInt32 % 65536).toInt32, (), rfl, hwp, by rw [ht]; exact hP9, va_K.moved hW.alike hK, hD9⟩, hS.F ht⟩) hS.2.2 dJ1_charAt_3b067_14
abbrev ws_J0_charAt_5068e : List Cond := .code yJ0_charAt_5068e cJ0_charAt_5068e 2 (some .char) :: WALL
theorem gc_J0_492 : GoodIn WALL (wsV RJ0 492 RJ0 yJ0_isLatin1_aae02 ws_J0_isLatin1_aae02) := gc_v wd_832 wd_833 wd_834 wd_48 wd_835
theorem gc_J0_495 : GoodIn WALL (va_wsS RJ0 495 yJ1_charAt_3b067 ws_J1_charAt_3b067) := gc_s wd_836 wd_837 wd_55 wd_838
abbrev rm_J0_charAt_5068e : Room := { frames := 3, cells := 0, slots := 0, locals := 64 }
abbrev w_J0_charAt_5068e (C : Nat → ClassId) (q : Nat) (t_bs : List Int32) : va_W := []
abbrev q_J0_charAt_5068e (D : va_G) (C : Nat → ClassId) (q : Nat) (t_bs : List Int32) (Q : Int32 → Prop) (A : Nat → Prop) : Array Value → State → Outcome → State → Prop := va_Qi (fun (r : Int32) (u : Unit) => Q r) (fun (u : Unit) (t : State) => va_P D vwCl (w_J0_charAt_5068e C q t_bs) t.heap ∧ va_K D vwCl (tyL C) t ∧ va_D A (w_J0_charAt_5068e C q t_bs)) A
set_option maxHeartbeats 4000000 in
set_option maxRecDepth 100000 in
theorem met_J0_charAt_5068e (l : Launch) (hst : l.stackTraces = false) (D : va_G) (C : Nat → ClassId) (q : Nat) (p1 : Int32) (t_bs : List Int32) (sz : Nat) (Q : Int32 → Prop) (hwp : wp_J0_charAt_5068e p1 t_bs Q) : Met l yJ0_charAt_5068e ws_J0_charAt_5068e rm_J0_charAt_5068e (va_Pc [.ref q, .int p1] (fun U => U.heap.size = sz ∧ va_P D vwCl (w_J0_charAt_5068e C q t_bs) U.heap ∧ va_K D vwCl (tyL C) U ∧ va_D (fun _ => True) (w_J0_charAt_5068e C q t_bs) ∧ TX (va_A (w_J0_charAt_5068e C q t_bs) sz) U U.heap ∧ StrC t_bs q (va_A (w_J0_charAt_5068e C q t_bs) sz) U U.heap)) (q_J0_charAt_5068e D C q t_bs Q (va_A (w_J0_charAt_5068e C q t_bs) sz)) 0 0 (va_A (w_J0_charAt_5068e C q t_bs) sz) := by
  refine Met.ofW (cc := cJ0_charAt_5068e) (maxL := 2) (ret := (some .char)) (by decide) rfl ?_
  intro p e s m args below meth c s₁ B hml hv
  obtain ⟨rfl, hsz, hP, hK, hD0, hT, hs_q⟩ := hv
  have hx := B.exec
  have hb := B.bytes
  have hr := B.returns
  have hts : ∀ w ∈ WALL, w.before _ s = true := fun w h => atoms_spec (ws := ws_J0_charAt_5068e) B.pre w (List.mem_cons_of_mem _ h)
  have hown : s.vm.findClass RJ0 = some m.cls := findClass_of_methodNamed B.named
  have hlocks := B.notSynchronized
  subst hsz
  have hD := hD0.self (sz := s.heap.size)
  generalize hAe : va_A (w_J0_charAt_5068e C q t_bs) s.heap.size = A at hD ⊢ hT hs_q
  have hA : ∀ q : Nat, s.heap.size ≤ q → A q := fun q h => by rw [← hAe]; exact Or.inr h
  have hS : va_S A s.heap s.heap [] := va_S.rf
  have hl := lv_entry ([.ref q, .int p1]) (n := 2) (Nat.le_of_ble_eq_true rfl)
  rw [lg_entry_eq]
  generalize (lg_sl ([.ref q, .int p1]) ++ List.replicate (2 - (lg_sl ([.ref q, .int p1])).length) Slot.unset).toArray = ls at hl ⊢
  have hl : lv_has ls 2 [(0, .ref q), (1, .int p1)] := hl
  unfold wp_J0_charAt_5068e at hwp
  obtain ⟨H, hH⟩ : ∃ H, H = s.heap := ⟨_, rfl⟩
  obtain ⟨locs, hlo⟩ : ∃ z : List Loc, z = [] := ⟨_, rfl⟩
  have hP : va_P D vwCl [] H := by rw [hH]; exact hP
  have hD : va_D A [] := hD
  have hS : va_S A s.heap H locs := by rw [hH, hlo]; exact hS
  suffices K : W p l e (headSpec ws_J0_charAt_5068e rm_J0_charAt_5068e).room s m ([.ref q, .int p1] : List Value).toArray below meth c H locs 0 0 (MQ below (q_J0_charAt_5068e D C q t_bs Q A) ([.ref q, .int p1] : List Value).toArray s 0 0 A) (F0 m 0 ls []) from by rw [hH, hlo] at K; exact K
  refine lv_aload_n hx hb dJ0_charAt_5068e_0 rfl (lv_at hl 0 rfl) ?_
  have hPc := hP.sub (ws' := []) [] rfl
  have hDc := hD.sub (ws' := []) [] (by decide) rfl
  have hFc := va_free (wc := []) hD hS hA [] rfl
  refine va_calli (va_runV (As := []) (rest := []) ⟨hx, hb, hml, hown, hts⟩ (met_J0_isLatin1_aae02 l hst D C q t_bs H.size (fun r => r = (1 : Int32)) rfl) (cwV 0 hts gc_J0_492 rfl rfl rfl (by decide +kernel) ⟨Nat.le_of_ble_eq_true rfl, Nat.le_of_ble_eq_true rfl⟩) ⟨fun a U g mk q => by obtain ⟨q0, q1, qP, qK, qD, qT, qS_q⟩ := q; exact ⟨q0, q1, qP, va_K.moved (u := U) (U := U.calling g mk a) (Vm.Alike.refl U.vm) qK, qD, qT.mv (U := U.calling g mk a) (State.WarmedH.refl U), qS_q.moved (U := U.calling g mk a) (Vm.Alike.refl U.vm)⟩, hs_q.recv hS, fun U hU hW => ⟨rfl, by rw [hU], by rw [hU]; exact hPc, va_K.moved hW.alike hK, hDc.weaken (fun _ _ _ _ => trivial), hT.call hS hFc hU hW, hs_q.call hS hFc hU hW⟩⟩ rfl rfl hl.1 rfl (lv_room (Nat.le_of_ble_eq_true rfl)) dJ0_charAt_5068e_1 ⟨Nat.zero_le _, Nat.zero_le _⟩) hS (fun q _ h => hFc q h) hFc (fun r1 u t H1 locs ht hvm hwc hB hz1 hk1 hS => ?_)
  obtain rfl := hwc
  obtain ⟨hP1, -, hD1⟩ := hB
  rw [ht] at hP1
  obtain ⟨hP, hD⟩ := va_join (wr := []) (w1 := []) hP hD [] [] rfl rfl (by decide) (by decide) hk1 hFc hP1 hD1
  generalize H1 = H at hP hS ⊢
  have hP : va_P D vwCl [] H := hP
  have hD : va_D A [] := hD
  refine lv_if_eq (tgt := 16) hx hb dJ0_charAt_5068e_4 (by decide) (fun c4 => ?_) (fun c4 => ?_)
  · exact absurd c4 (by decide)
  · refine lv_aload_n hx hb dJ0_charAt_5068e_7 rfl (lv_at hl 0 rfl) ?_
    obtain ⟨q_v, ho_q, hc_q, hv_q, ht_q_v⟩ := id hs_q
    refine vk_getf hx hb hv_q hS hown (hts (.fieldLink RJ0 9 "java/lang/String" "value" "[B") wd_810) (fun _ h9 => h9) dJ0_charAt_5068e_8 ?_
    refine lv_iload_n hx hb dJ0_charAt_5068e_11 rfl (lv_at hl 1 rfl) ?_
    have hPc := hP.sub (ws' := []) [] rfl
    have hDc := hD.sub (ws' := []) [] (by decide) rfl
    have hFc := va_free (wc := []) hD hS hA [] rfl
    refine va_calli (va_runS (As := [.ref q_v, .int p1]) (rest := []) ⟨hx, hb, hml, hown, hts⟩ (met_J1_charAt_3b067 l hst D C q_v p1 t_bs H.size _ hwp) (va_cwS 2 hts gc_J0_495 rfl rfl rfl (by decide +kernel) ⟨Nat.le_of_ble_eq_true rfl, Nat.le_of_ble_eq_true rfl⟩) ⟨fun a U g mk q => by obtain ⟨q0, q1, qP, qK, qD, qT, qS_q0⟩ := q; exact ⟨q0, q1, qP, va_K.moved (u := U) (U := U.calling g mk a) (Vm.Alike.refl U.vm) qK, qD, qT.mv (U := U.calling g mk a) (State.WarmedH.refl U), va_T.moved (U := U.calling g mk a) (Vm.Alike.refl U.vm) qS_q0⟩, fun U hU hW => ⟨rfl, by rw [hU], by rw [hU]; exact hPc, va_K.moved hW.alike hK, hDc.weaken (fun _ _ _ _ => trivial), hT.call hS hFc hU hW, ArrC_call ht_q_v hS hFc hU hW⟩⟩ rfl rfl hl.1 rfl (lv_room (Nat.le_of_ble_eq_true rfl)) dJ0_charAt_5068e_12 ⟨Nat.zero_le _, Nat.zero_le _⟩) hS (fun q _ h => hFc q h) hFc (fun r12 u t H1 locs ht hvm hwp hB hz1 hk1 hS => ?_)
    obtain ⟨hP1, -, hD1⟩ := hB
    rw [ht] at hP1
    obtain ⟨hP, hD⟩ := va_join (wr := []) (w1 := []) hP hD [] [] rfl rfl (by decide) (by decide) hk1 hFc hP1 hD1
    generalize H1 = H at hP hS ⊢
    have hP : va_P D vwCl [] H := hP
    have hD : va_D A [] := hD
    have hP9 := hP.sub (ws' := []) [] rfl
    have hD9 := hD.sub (ws' := []) [] (by decide) rfl
    obtain ⟨hn9, hwp⟩ := hwp
    exact W.zret (v := r12) (ty := .char) hx hb hr hn9 (fun t ht hW => ⟨⟨r12, (), rfl, hwp, by rw [ht]; exact hP9, va_K.moved hW.alike hK, hD9⟩, hS.F ht⟩) hS.2.2 dJ0_charAt_5068e_15
abbrev ws_X5_isWord : List Cond := .code yX5_isWord cX5_isWord 3 (some .boolean) :: WALL
theorem gc_X5_77 : GoodIn WALL (wsV RX5 77 RJ0 yJ0_length_8abf5 ws_J0_length_8abf5) := gc_v wd_920 wd_580 wd_581 wd_48 wd_582
theorem gc_X5_82 : GoodIn WALL (wsV RX5 82 RJ0 yJ0_charAt_5068e ws_J0_charAt_5068e) := gc_v wd_921 wd_829 wd_830 wd_48 wd_831
abbrev rm_X5_isWord : Room := { frames := 4, cells := 0, slots := 0, locals := 85 }
abbrev w_X5_isWord (C : Nat → ClassId) (q : Nat) (q_draft : Nat) (q_text : Nat) (q1 : Nat) (t1_bs : List Int32) (t_code : Int32) (t_place : Int32) (t_length : Int32) (t_kind : Int32) (t_start : Int32) (t_next : Int32) (t_value : Int32) (t_text : Nat → Int32) : va_W := [(q, .inr (5, [.ref q_draft, .int t_code, .int t_place, .ref q_text, .int t_length, .int t_kind, .int t_start, .int t_next, .int t_value])), (q_text, .inl (C 1, 600, .inl t_text))]
abbrev q_X5_isWord (D : va_G) (C : Nat → ClassId) (q : Nat) (q_draft : Nat) (q_text : Nat) (q1 : Nat) (t1_bs : List Int32) (t_code : Int32) (t_place : Int32) (t_length : Int32) (t_kind : Int32) (t_start : Int32) (t_next : Int32) (t_value : Int32) (t_text : Nat → Int32) (Q : Int32 → Prop) (A : Nat → Prop) : Array Value → State → Outcome → State → Prop := va_Qi (fun (r : Int32) (u : Unit) => Q r) (fun (u : Unit) (t : State) => va_P D vwCl (w_X5_isWord C q q_draft q_text q1 t1_bs t_code t_place t_length t_kind t_start t_next t_value t_text) t.heap ∧ va_K D vwCl (tyL C) t ∧ va_D A (w_X5_isWord C q q_draft q_text q1 t1_bs t_code t_place t_length t_kind t_start t_next t_value t_text)) A
set_option maxHeartbeats 4000000 in
set_option maxRecDepth 100000 in
theorem met_X5_isWord (l : Launch) (hst : l.stackTraces = false) (D : va_G) (C : Nat → ClassId) (q : Nat) (q_draft : Nat) (q_text : Nat) (q1 : Nat) (t1_bs : List Int32) (t_code : Int32) (t_place : Int32) (t_length : Int32) (t_kind : Int32) (t_start : Int32) (t_next : Int32) (t_value : Int32) (t_text : Nat → Int32) (sz : Nat) (Q : Int32 → Prop) (hwp : wp_X5_isWord t1_bs t_length t_kind t_start t_next t_text Q) : Met l yX5_isWord ws_X5_isWord rm_X5_isWord (va_Pc [.ref q, .ref q1] (fun U => U.heap.size = sz ∧ va_P D vwCl (w_X5_isWord C q q_draft q_text q1 t1_bs t_code t_place t_length t_kind t_start t_next t_value t_text) U.heap ∧ va_K D vwCl (tyL C) U ∧ va_D (fun _ => True) (w_X5_isWord C q q_draft q_text q1 t1_bs t_code t_place t_length t_kind t_start t_next t_value t_text) ∧ TX (va_A (w_X5_isWord C q q_draft q_text q1 t1_bs t_code t_place t_length t_kind t_start t_next t_value t_text) sz) U U.heap ∧ StrC t1_bs q1 (va_A (w_X5_isWord C q q_draft q_text q1 t1_bs t_code t_place t_length t_kind t_start t_next t_value t_text) sz) U U.heap)) (q_X5_isWord D C q q_draft q_text q1 t1_bs t_code t_place t_length t_kind t_start t_next t_value t_text Q (va_A (w_X5_isWord C q q_draft q_text q1 t1_bs t_code t_place t_length t_kind t_start t_next t_value t_text) sz)) 0 0 (va_A (w_X5_isWord C q q_draft q_text q1 t1_bs t_code t_place t_length t_kind t_start t_next t_value t_text) sz) := by
  refine Met.ofW (cc := cX5_isWord) (maxL := 3) (ret := (some .boolean)) (by decide) rfl ?_
  intro p e s m args below meth c s₁ B hml hv
  obtain ⟨rfl, hsz, hP, hK, hD0, hT, hs_q1⟩ := hv
  have hx := B.exec
  have hb := B.bytes
  have hr := B.returns
  have hts : ∀ w ∈ WALL, w.before _ s = true := fun w h => atoms_spec (ws := ws_X5_isWord) B.pre w (List.mem_cons_of_mem _ h)
  have hown : s.vm.findClass RX5 = some m.cls := findClass_of_methodNamed B.named
  have hlocks := B.notSynchronized
  subst hsz
  have hD := hD0.self (sz := s.heap.size)
  generalize hAe : va_A (w_X5_isWord C q q_draft q_text q1 t1_bs t_code t_place t_length t_kind t_start t_next t_value t_text) s.heap.size = A at hD ⊢ hT hs_q1
  have hA : ∀ q : Nat, s.heap.size ≤ q → A q := fun q h => by rw [← hAe]; exact Or.inr h
  have hS : va_S A s.heap s.heap [] := va_S.rf
  have hl := lv_entry ([.ref q, .ref q1]) (n := 3) (Nat.le_of_ble_eq_true rfl)
  rw [lg_entry_eq]
  generalize (lg_sl ([.ref q, .ref q1]) ++ List.replicate (3 - (lg_sl ([.ref q, .ref q1])).length) Slot.unset).toArray = ls at hl ⊢
  have hl : lv_has ls 3 [(0, .ref q), (1, .ref q1)] := hl
  have HL28 : ∀  (n28 : Nat) (x2 : Int32) (H : Heap) (locs : List Loc) (ls : Array Slot), lv_has ls 3 [(0, .ref q), (1, .ref q1), (2, .int x2)] → va_P D vwCl [(q, .inr (5, [.ref q_draft, .int t_code, .int t_place, .ref q_text, .int t_length, .int t_kind, .int t_start, .int t_next, .int t_value])), (q_text, .inl (C 1, 600, .inl t_text))] H → va_D A [(q, .inr (5, [.ref q_draft, .int t_code, .int t_place, .ref q_text, .int t_length, .int t_kind, .int t_start, .int t_next, .int t_value])), (q_text, .inl (C 1, 600, .inl t_text))] → va_S A s.heap H locs → wp_X5_isWord_L28 t1_bs t_length t_kind t_start t_next t_text Q n28 x2 → W p l e (headSpec ws_X5_isWord rm_X5_isWord).room s m ([.ref q, .ref q1] : List Value).toArray below meth c H locs 0 0 (MQ below (q_X5_isWord D C q q_draft q_text q1 t1_bs t_code t_place t_length t_kind t_start t_next t_value t_text Q A) ([.ref q, .ref q1] : List Value).toArray s 0 0 A) (F0 m 28 ls []) := by
    intro  n28
    induction n28 with
    | zero =>
      intro x2 H locs ls hl hP hD hS hwp
      exact False.elim hwp
    | succ n28 ih =>
      intro x2 H locs ls hl hP hD hS hwp
      unfold wp_X5_isWord_L28 at hwp
      refine lv_iload_n hx hb dX5_isWord_28 rfl (lv_at hl 2 rfl) ?_
      refine lv_aload_n hx hb dX5_isWord_29 rfl (lv_at hl 1 rfl) ?_
      have hPc := hP.sub (ws' := []) [] rfl
      have hDc := hD.sub (ws' := []) [] (by decide) rfl
      have hFc := va_free (wc := []) hD hS hA [] rfl
      refine va_calli (va_runV (As := []) (rest := [.int x2]) ⟨hx, hb, hml, hown, hts⟩ (met_J0_length_8abf5 l hst D C q1 t1_bs H.size _ hwp) (cwV 0 hts gc_X5_77 rfl rfl rfl (by decide +kernel) ⟨Nat.le_of_ble_eq_true rfl, Nat.le_of_ble_eq_true rfl⟩) ⟨fun a U g mk q => by obtain ⟨q0, q1, qP, qK, qD, qT, qS_q⟩ := q; exact ⟨q0, q1, qP, va_K.moved (u := U) (U := U.calling g mk a) (Vm.Alike.refl U.vm) qK, qD, qT.mv (U := U.calling g mk a) (State.WarmedH.refl U), qS_q.moved (U := U.calling g mk a) (Vm.Alike.refl U.vm)⟩, hs_q1.recv hS, fun U hU hW => ⟨rfl, by rw [hU], by rw [hU]; exact hPc, va_K.moved hW.alike hK, hDc.weaken (fun _ _ _ _ => trivial), hT.call hS hFc hU hW, hs_q1.call hS hFc hU hW⟩⟩ rfl rfl hl.1 rfl (lv_room (Nat.le_of_ble_eq_true rfl)) dX5_isWord_30 ⟨Nat.zero_le _, Nat.zero_le _⟩) hS (fun q _ h => hFc q h) hFc (fun r30 u t H1 locs ht hvm hwp hB hz1 hk1 hS => ?_)
      obtain ⟨hP1, -, hD1⟩ := hB
      rw [ht] at hP1
      obtain ⟨hP, hD⟩ := va_join (wr := [(q, .inr (5, [.ref q_draft, .int t_code, .int t_place, .ref q_text, .int t_length, .int t_kind, .int t_start, .int t_next, .int t_value])), (q_text, .inl (C 1, 600, .inl t_text))]) (w1 := []) hP hD [] [0, 1] rfl rfl (by decide) (by decide) hk1 hFc hP1 hD1
      generalize H1 = H at hP hS ⊢
      have hP : va_P D vwCl [(q, .inr (5, [.ref q_draft, .int t_code, .int t_place, .ref q_text, .int t_length, .int t_kind, .int t_start, .int t_next, .int t_value])), (q_text, .inl (C 1, 600, .inl t_text))] H := hP
      have hD : va_D A [(q, .inr (5, [.ref q_draft, .int t_code, .int t_place, .ref q_text, .int t_length, .int t_kind, .int t_start, .int t_next, .int t_value])), (q_text, .inl (C 1, 600, .inl t_text))] := hD
      refine lv_icmp_ge (tgt := 76) hx hb dX5_isWord_33 (by decide) (fun c33 => ?_) (fun c33 => ?_)
      · have hwp := hwp.1 c33
        refine lv_iconst (v := 1) hx hb dX5_isWord_76 (by decide) ?_
        have hP9 := hP.sub (ws' := [(q, .inr (5, [.ref q_draft, .int t_code, .int t_place, .ref q_text, .int t_length, .int t_kind, .int t_start, .int t_next, .int t_value])), (q_text, .inl (C 1, 600, .inl t_text))]) [0, 1] rfl
        have hD9 := hD.sub (ws' := [(q, .inr (5, [.ref q_draft, .int t_code, .int t_place, .ref q_text, .int t_length, .int t_kind, .int t_start, .int t_next, .int t_value])), (q_text, .inl (C 1, 600, .inl t_text))]) [0, 1] (by decide) rfl
        exact W.zret (v := (1 : Int32)) (ty := .boolean) hx hb hr rfl (fun t ht hW => ⟨⟨(1 : Int32), (), rfl, hwp, by rw [ht]; exact hP9, va_K.moved hW.alike hK, hD9⟩, hS.F ht⟩) hS.2.2 dX5_isWord_77
      · have hwp := hwp.2 c33
        refine lv_aload_n hx hb dX5_isWord_36 rfl (lv_at hl 0 rfl) ?_
        refine va_get (D := D) (ci := 5) (v := .int t_start) (C := RX5) (T := TX5) (N := 9) hx hb hts iwX5 hown hK hP 0 rfl rfl 6 (by decide) (hts (.fieldLink RX5 57 "ParetoDesk$Parser" "start" "I") wd_156) (fun _ h9 => h9) rfl dX5_isWord_37 ?_
        refine lv_iload_n hx hb dX5_isWord_40 rfl (lv_at hl 2 rfl) ?_
        refine lv_iadd hx hb dX5_isWord_41 ?_
        refine lv_aload_n hx hb dX5_isWord_42 rfl (lv_at hl 0 rfl) ?_
        refine va_get (D := D) (ci := 5) (v := .int t_length) (C := RX5) (T := TX5) (N := 9) hx hb hts iwX5 hown hK hP 0 rfl rfl 4 (by decide) (hts (.fieldLink RX5 32 "ParetoDesk$Parser" "length" "I") wd_154) (fun _ h9 => h9) rfl dX5_isWord_43 ?_
        refine lv_icmp_ge (tgt := 76) hx hb dX5_isWord_46 (by decide) (fun c46 => ?_) (fun c46 => ?_)
        · have hwp := hwp.1 c46
          refine lv_iconst (v := 1) hx hb dX5_isWord_76 (by decide) ?_
          have hP9 := hP.sub (ws' := [(q, .inr (5, [.ref q_draft, .int t_code, .int t_place, .ref q_text, .int t_length, .int t_kind, .int t_start, .int t_next, .int t_value])), (q_text, .inl (C 1, 600, .inl t_text))]) [0, 1] rfl
          have hD9 := hD.sub (ws' := [(q, .inr (5, [.ref q_draft, .int t_code, .int t_place, .ref q_text, .int t_length, .int t_kind, .int t_start, .int t_next, .int t_value])), (q_text, .inl (C 1, 600, .inl t_text))]) [0, 1] (by decide) rfl
          exact W.zret (v := (1 : Int32)) (ty := .boolean) hx hb hr rfl (fun t ht hW => ⟨⟨(1 : Int32), (), rfl, hwp, by rw [ht]; exact hP9, va_K.moved hW.alike hK, hD9⟩, hS.F ht⟩) hS.2.2 dX5_isWord_77
        · have hwp := hwp.2 c46
          refine lv_aload_n hx hb dX5_isWord_49 rfl (lv_at hl 0 rfl) ?_
          refine va_get (D := D) (ci := 5) (v := .ref q_text) (C := RX5) (T := TX5) (N := 9) hx hb hts iwX5 hown hK hP 0 rfl rfl 3 (by decide) (hts (.fieldLink RX5 22 "ParetoDesk$Parser" "text" "[B") wd_153) (fun _ h9 => h9) rfl dX5_isWord_50 ?_
          refine lv_aload_n hx hb dX5_isWord_53 rfl (lv_at hl 0 rfl) ?_
          refine va_get (D := D) (ci := 5) (v := .int t_start) (C := RX5) (T := TX5) (N := 9) hx hb hts iwX5 hown hK hP 0 rfl rfl 6 (by decide) (hts (.fieldLink RX5 57 "ParetoDesk$Parser" "start" "I") wd_156) (fun _ h9 => h9) rfl dX5_isWord_54 ?_
          refine lv_iload_n hx hb dX5_isWord_57 rfl (lv_at hl 2 rfl) ?_
          refine lv_iadd hx hb dX5_isWord_58 ?_
          obtain ⟨hi59, hwp⟩ := hwp
          refine va_bald (D := D) hx hb hK hP 1 1 rfl rfl hi59 dX5_isWord_59 ?_
          refine lv_aload_n hx hb dX5_isWord_60 rfl (lv_at hl 1 rfl) ?_
          refine lv_iload_n hx hb dX5_isWord_61 rfl (lv_at hl 2 rfl) ?_
          have hPc := hP.sub (ws' := []) [] rfl
          have hDc := hD.sub (ws' := []) [] (by decide) rfl
          have hFc := va_free (wc := []) hD hS hA [] rfl
          refine va_calli (va_runV (As := [.int x2]) (rest := [.int (t_text (t_start + x2).toNatClampNeg)]) ⟨hx, hb, hml, hown, hts⟩ (met_J0_charAt_5068e l hst D C q1 x2 t1_bs H.size _ hwp) (cwV 1 hts gc_X5_82 rfl rfl rfl (by decide +kernel) ⟨Nat.le_of_ble_eq_true rfl, Nat.le_of_ble_eq_true rfl⟩) ⟨fun a U g mk q => by obtain ⟨q0, q1, qP, qK, qD, qT, qS_q⟩ := q; exact ⟨q0, q1, qP, va_K.moved (u := U) (U := U.calling g mk a) (Vm.Alike.refl U.vm) qK, qD, qT.mv (U := U.calling g mk a) (State.WarmedH.refl U), qS_q.moved (U := U.calling g mk a) (Vm.Alike.refl U.vm)⟩, hs_q1.recv hS, fun U hU hW => ⟨rfl, by rw [hU], by rw [hU]; exact hPc, va_K.moved hW.alike hK, hDc.weaken (fun _ _ _ _ => trivial), hT.call hS hFc hU hW, hs_q1.call hS hFc hU hW⟩⟩ rfl rfl hl.1 rfl (lv_room (Nat.le_of_ble_eq_true rfl)) dX5_isWord_62 ⟨Nat.zero_le _, Nat.zero_le _⟩) hS (fun q _ h => hFc q h) hFc (fun r62 u t H1 locs ht hvm hwp hB hz1 hk1 hS => ?_)
          obtain ⟨hP1, -, hD1⟩ := hB
          rw [ht] at hP1
          obtain ⟨hP, hD⟩ := va_join (wr := [(q, .inr (5, [.ref q_draft, .int t_code, .int t_place, .ref q_text, .int t_length, .int t_kind, .int t_start, .int t_next, .int t_value])), (q_text, .inl (C 1, 600, .inl t_text))]) (w1 := []) hP hD [] [0, 1] rfl rfl (by decide) (by decide) hk1 hFc hP1 hD1
          generalize H1 = H at hP hS ⊢
          have hP : va_P D vwCl [(q, .inr (5, [.ref q_draft, .int t_code, .int t_place, .ref q_text, .int t_length, .int t_kind, .int t_start, .int t_next, .int t_value])), (q_text, .inl (C 1, 600, .inl t_text))] H := hP
          have hD : va_D A [(q, .inr (5, [.ref q_draft, .int t_code, .int t_place, .ref q_text, .int t_length, .int t_kind, .int t_start, .int t_next, .int t_value])), (q_text, .inl (C 1, 600, .inl t_text))] := hD
          refine lv_icmp_eq (tgt := 70) hx hb dX5_isWord_65 (by decide) (fun c65 => ?_) (fun c65 => ?_)
          · have hwp := hwp.1 c65
            refine lv_iinc (v := x2 + 1) (lv' := [(2, .int (x2 + 1)), (0, .ref q), (1, .ref q1)]) hx hb dX5_isWord_70 hl (k := 2) rfl rfl (by decide) rfl (fun ls hl => ?_)
            refine lv_goto (tgt := 28) hx hb dX5_isWord_73 (by decide) ?_
            have hl9 := lv_sub (l' := [(0, .ref q), (1, .ref q1), (2, .int (x2 + 1))]) hl [1, 2, 0] rfl
            have hP9 := hP.sub (ws' := [(q, .inr (5, [.ref q_draft, .int t_code, .int t_place, .ref q_text, .int t_length, .int t_kind, .int t_start, .int t_next, .int t_value])), (q_text, .inl (C 1, 600, .inl t_text))]) [0, 1] rfl
            have hD9 := hD.sub (ws' := [(q, .inr (5, [.ref q_draft, .int t_code, .int t_place, .ref q_text, .int t_length, .int t_kind, .int t_start, .int t_next, .int t_value])), (q_text, .inl (C 1, 600, .inl t_text))]) [0, 1] (by decide) rfl
            exact ih (x2 + 1) H locs ls hl9 hP9 hD9 hS hwp
          · have hwp := hwp.2 c65
            refine lv_iconst (v := 0) hx hb dX5_isWord_68 (by decide) ?_
            have hP9 := hP.sub (ws' := [(q, .inr (5, [.ref q_draft, .int t_code, .int t_place, .ref q_text, .int t_length, .int t_kind, .int t_start, .int t_next, .int t_value])), (q_text, .inl (C 1, 600, .inl t_text))]) [0, 1] rfl
            have hD9 := hD.sub (ws' := [(q, .inr (5, [.ref q_draft, .int t_code, .int t_place, .ref q_text, .int t_length, .int t_kind, .int t_start, .int t_next, .int t_value])), (q_text, .inl (C 1, 600, .inl t_text))]) [0, 1] (by decide) rfl
            exact W.zret (v := (0 : Int32)) (ty := .boolean) hx hb hr rfl (fun t ht hW => ⟨⟨(0 : Int32), (), rfl, hwp, by rw [ht]; exact hP9, va_K.moved hW.alike hK, hD9⟩, hS.F ht⟩) hS.2.2 dX5_isWord_69
  unfold wp_X5_isWord at hwp
  obtain ⟨H, hH⟩ : ∃ H, H = s.heap := ⟨_, rfl⟩
  obtain ⟨locs, hlo⟩ : ∃ z : List Loc, z = [] := ⟨_, rfl⟩
  have hP : va_P D vwCl [(q, .inr (5, [.ref q_draft, .int t_code, .int t_place, .ref q_text, .int t_length, .int t_kind, .int t_start, .int t_next, .int t_value])), (q_text, .inl (C 1, 600, .inl t_text))] H := by rw [hH]; exact hP
  have hD : va_D A [(q, .inr (5, [.ref q_draft, .int t_code, .int t_place, .ref q_text, .int t_length, .int t_kind, .int t_start, .int t_next, .int t_value])), (q_text, .inl (C 1, 600, .inl t_text))] := hD
  have hS : va_S A s.heap H locs := by rw [hH, hlo]; exact hS
  suffices K : W p l e (headSpec ws_X5_isWord rm_X5_isWord).room s m ([.ref q, .ref q1] : List Value).toArray below meth c H locs 0 0 (MQ below (q_X5_isWord D C q q_draft q_text q1 t1_bs t_code t_place t_length t_kind t_start t_next t_value t_text Q A) ([.ref q, .ref q1] : List Value).toArray s 0 0 A) (F0 m 0 ls []) from by rw [hH, hlo] at K; exact K
  refine lv_aload_n hx hb dX5_isWord_0 rfl (lv_at hl 0 rfl) ?_
  refine va_get (D := D) (ci := 5) (v := .int t_kind) (C := RX5) (T := TX5) (N := 9) hx hb hts iwX5 hown hK hP 0 rfl rfl 5 (by decide) (hts (.fieldLink RX5 51 "ParetoDesk$Parser" "kind" "I") wd_155) (fun _ h9 => h9) rfl dX5_isWord_1 ?_
  refine lv_iconst (v := 1) hx hb dX5_isWord_4 (by decide) ?_
  refine lv_icmp_ne (tgt := 24) hx hb dX5_isWord_5 (by decide) (fun c5 => ?_) (fun c5 => ?_)
  · have hwp := hwp.1 c5
    refine lv_iconst (v := 0) hx hb dX5_isWord_24 (by decide) ?_
    have hP9 := hP.sub (ws' := [(q, .inr (5, [.ref q_draft, .int t_code, .int t_place, .ref q_text, .int t_length, .int t_kind, .int t_start, .int t_next, .int t_value])), (q_text, .inl (C 1, 600, .inl t_text))]) [0, 1] rfl
    have hD9 := hD.sub (ws' := [(q, .inr (5, [.ref q_draft, .int t_code, .int t_place, .ref q_text, .int t_length, .int t_kind, .int t_start, .int t_next, .int t_value])), (q_text, .inl (C 1, 600, .inl t_text))]) [0, 1] (by decide) rfl
    exact W.zret (v := (0 : Int32)) (ty := .boolean) hx hb hr rfl (fun t ht hW => ⟨⟨(0 : Int32), (), rfl, hwp, by rw [ht]; exact hP9, va_K.moved hW.alike hK, hD9⟩, hS.F ht⟩) hS.2.2 dX5_isWord_25
  · have hwp := hwp.2 c5
    refine lv_aload_n hx hb dX5_isWord_8 rfl (lv_at hl 0 rfl) ?_
    refine va_get (D := D) (ci := 5) (v := .int t_next) (C := RX5) (T := TX5) (N := 9) hx hb hts iwX5 hown hK hP 0 rfl rfl 7 (by decide) (hts (.fieldLink RX5 35 "ParetoDesk$Parser" "next" "I") wd_157) (fun _ h9 => h9) rfl dX5_isWord_9 ?_
    refine lv_aload_n hx hb dX5_isWord_12 rfl (lv_at hl 0 rfl) ?_
    refine va_get (D := D) (ci := 5) (v := .int t_start) (C := RX5) (T := TX5) (N := 9) hx hb hts iwX5 hown hK hP 0 rfl rfl 6 (by decide) (hts (.fieldLink RX5 57 "ParetoDesk$Parser" "start" "I") wd_156) (fun _ h9 => h9) rfl dX5_isWord_13 ?_
    refine lv_isub hx hb dX5_isWord_16 ?_
    refine lv_aload_n hx hb dX5_isWord_17 rfl (lv_at hl 1 rfl) ?_
    have hPc := hP.sub (ws' := []) [] rfl
    have hDc := hD.sub (ws' := []) [] (by decide) rfl
    have hFc := va_free (wc := []) hD hS hA [] rfl
    refine va_calli (va_runV (As := []) (rest := [.int (t_next - t_start)]) ⟨hx, hb, hml, hown, hts⟩ (met_J0_length_8abf5 l hst D C q1 t1_bs H.size _ hwp) (cwV 0 hts gc_X5_77 rfl rfl rfl (by decide +kernel) ⟨Nat.le_of_ble_eq_true rfl, Nat.le_of_ble_eq_true rfl⟩) ⟨fun a U g mk q => by obtain ⟨q0, q1, qP, qK, qD, qT, qS_q⟩ := q; exact ⟨q0, q1, qP, va_K.moved (u := U) (U := U.calling g mk a) (Vm.Alike.refl U.vm) qK, qD, qT.mv (U := U.calling g mk a) (State.WarmedH.refl U), qS_q.moved (U := U.calling g mk a) (Vm.Alike.refl U.vm)⟩, hs_q1.recv hS, fun U hU hW => ⟨rfl, by rw [hU], by rw [hU]; exact hPc, va_K.moved hW.alike hK, hDc.weaken (fun _ _ _ _ => trivial), hT.call hS hFc hU hW, hs_q1.call hS hFc hU hW⟩⟩ rfl rfl hl.1 rfl (lv_room (Nat.le_of_ble_eq_true rfl)) dX5_isWord_18 ⟨Nat.zero_le _, Nat.zero_le _⟩) hS (fun q _ h => hFc q h) hFc (fun r18 u t H1 locs ht hvm hwp hB hz1 hk1 hS => ?_)
    obtain ⟨hP1, -, hD1⟩ := hB
    rw [ht] at hP1
    obtain ⟨hP, hD⟩ := va_join (wr := [(q, .inr (5, [.ref q_draft, .int t_code, .int t_place, .ref q_text, .int t_length, .int t_kind, .int t_start, .int t_next, .int t_value])), (q_text, .inl (C 1, 600, .inl t_text))]) (w1 := []) hP hD [] [0, 1] rfl rfl (by decide) (by decide) hk1 hFc hP1 hD1
    generalize H1 = H at hP hS ⊢
    have hP : va_P D vwCl [(q, .inr (5, [.ref q_draft, .int t_code, .int t_place, .ref q_text, .int t_length, .int t_kind, .int t_start, .int t_next, .int t_value])), (q_text, .inl (C 1, 600, .inl t_text))] H := hP
    have hD : va_D A [(q, .inr (5, [.ref q_draft, .int t_code, .int t_place, .ref q_text, .int t_length, .int t_kind, .int t_start, .int t_next, .int t_value])), (q_text, .inl (C 1, 600, .inl t_text))] := hD
    refine lv_icmp_eq (tgt := 26) hx hb dX5_isWord_21 (by decide) (fun c21 => ?_) (fun c21 => ?_)
    · have hwp := hwp.1 c21
      refine lv_iconst (v := 0) hx hb dX5_isWord_26 (by decide) ?_
      refine lv_istore_n (lv' := [(2, .int (0 : Int32)), (0, .ref q), (1, .ref q1)]) hx hb dX5_isWord_27 rfl hl (by decide) rfl (fun ls hl => ?_)
      have hl9 := lv_sub (l' := [(0, .ref q), (1, .ref q1), (2, .int (0 : Int32))]) hl [1, 2, 0] rfl
      have hP9 := hP.sub (ws' := [(q, .inr (5, [.ref q_draft, .int t_code, .int t_place, .ref q_text, .int t_length, .int t_kind, .int t_start, .int t_next, .int t_value])), (q_text, .inl (C 1, 600, .inl t_text))]) [0, 1] rfl
      have hD9 := hD.sub (ws' := [(q, .inr (5, [.ref q_draft, .int t_code, .int t_place, .ref q_text, .int t_length, .int t_kind, .int t_start, .int t_next, .int t_value])), (q_text, .inl (C 1, 600, .inl t_text))]) [0, 1] (by decide) rfl
      obtain ⟨nn9, hwp⟩ := hwp
      refine HL28  nn9 (0 : Int32) H locs ls hl9 hP9 hD9 hS hwp
    · have hwp := hwp.2 c21
      refine lv_iconst (v := 0) hx hb dX5_isWord_24 (by decide) ?_
      have hP9 := hP.sub (ws' := [(q, .inr (5, [.ref q_draft, .int t_code, .int t_place, .ref q_text, .int t_length, .int t_kind, .int t_start, .int t_next, .int t_value])), (q_text, .inl (C 1, 600, .inl t_text))]) [0, 1] rfl
      have hD9 := hD.sub (ws' := [(q, .inr (5, [.ref q_draft, .int t_code, .int t_place, .ref q_text, .int t_length, .int t_kind, .int t_start, .int t_next, .int t_value])), (q_text, .inl (C 1, 600, .inl t_text))]) [0, 1] (by decide) rfl
      exact W.zret (v := (0 : Int32)) (ty := .boolean) hx hb hr rfl (fun t ht hW => ⟨⟨(0 : Int32), (), rfl, hwp, by rw [ht]; exact hP9, va_K.moved hW.alike hK, hD9⟩, hS.F ht⟩) hS.2.2 dX5_isWord_25
abbrev ws_X5_passWord : List Cond := .code yX5_passWord cX5_passWord 2 (some .boolean) :: WALL
theorem gc_X5_86 : GoodIn WALL (wsV RX5 86 RX5 yX5_isWord ws_X5_isWord) := gc_v wd_916 wd_918 wd_7 wd_36 wd_919
abbrev rm_X5_passWord : Room := { frames := 5, cells := 0, slots := 0, locals := 107 }
abbrev w_X5_passWord (C : Nat → ClassId) (q : Nat) (q_draft : Nat) (q_text : Nat) (q1 : Nat) (t1_bs : List Int32) (t_code : Int32) (t_place : Int32) (t_length : Int32) (t_kind : Int32) (t_start : Int32) (t_next : Int32) (t_value : Int32) (t_text : Nat → Int32) : va_W := [(q, .inr (5, [.ref q_draft, .int t_code, .int t_place, .ref q_text, .int t_length, .int t_kind, .int t_start, .int t_next, .int t_value])), (q_text, .inl (C 1, 600, .inl t_text))]
abbrev q_X5_passWord (D : va_G) (C : Nat → ClassId) (q : Nat) (q_draft : Nat) (q_text : Nat) (q1 : Nat) (t1_bs : List Int32) (t_length : Int32) (t_text : Nat → Int32) (Q : Int32 → Int32 → Int32 → Int32 → Int32 → Int32 → Int32 → Prop) (A : Nat → Prop) : Array Value → State → Outcome → State → Prop := va_Qi (fun (r : Int32) (u : Int32 × Int32 × Int32 × Int32 × Int32 × Int32) => Q r u.1 u.2.1 u.2.2.1 u.2.2.2.1 u.2.2.2.2.1 u.2.2.2.2.2) (fun (u : Int32 × Int32 × Int32 × Int32 × Int32 × Int32) (t : State) => va_P D vwCl (w_X5_passWord C q q_draft q_text q1 t1_bs u.1 u.2.1 t_length u.2.2.1 u.2.2.2.1 u.2.2.2.2.1 u.2.2.2.2.2 t_text) t.heap ∧ va_K D vwCl (tyL C) t ∧ va_D A (w_X5_passWord C q q_draft q_text q1 t1_bs u.1 u.2.1 t_length u.2.2.1 u.2.2.2.1 u.2.2.2.2.1 u.2.2.2.2.2 t_text)) A
set_option maxHeartbeats 4000000 in
set_option maxRecDepth 100000 in
theorem met_X5_passWord (l : Launch) (hst : l.stackTraces = false) (D : va_G) (C : Nat → ClassId) (q : Nat) (q_draft : Nat) (q_text : Nat) (q1 : Nat) (t1_bs : List Int32) (t_code : Int32) (t_place : Int32) (t_length : Int32) (t_kind : Int32) (t_start : Int32) (t_next : Int32) (t_value : Int32) (t_text : Nat → Int32) (sz : Nat) (Q : Int32 → Int32 → Int32 → Int32 → Int32 → Int32 → Int32 → Prop) (hwp : wp_X5_passWord t1_bs t_code t_place t_length t_kind t_start t_next t_value t_text Q) : Met l yX5_passWord ws_X5_passWord rm_X5_passWord (va_Pc [.ref q, .ref q1] (fun U => U.heap.size = sz ∧ va_P D vwCl (w_X5_passWord C q q_draft q_text q1 t1_bs t_code t_place t_length t_kind t_start t_next t_value t_text) U.heap ∧ va_K D vwCl (tyL C) U ∧ va_D (fun _ => True) (w_X5_passWord C q q_draft q_text q1 t1_bs t_code t_place t_length t_kind t_start t_next t_value t_text) ∧ TX (va_A (w_X5_passWord C q q_draft q_text q1 t1_bs t_code t_place t_length t_kind t_start t_next t_value t_text) sz) U U.heap ∧ StrC t1_bs q1 (va_A (w_X5_passWord C q q_draft q_text q1 t1_bs t_code t_place t_length t_kind t_start t_next t_value t_text) sz) U U.heap)) (q_X5_passWord D C q q_draft q_text q1 t1_bs t_length t_text Q (va_A (w_X5_passWord C q q_draft q_text q1 t1_bs t_code t_place t_length t_kind t_start t_next t_value t_text) sz)) 0 0 (va_A (w_X5_passWord C q q_draft q_text q1 t1_bs t_code t_place t_length t_kind t_start t_next t_value t_text) sz) := by
  refine Met.ofW (cc := cX5_passWord) (maxL := 2) (ret := (some .boolean)) (by decide) rfl ?_
  intro p e s m args below meth c s₁ B hml hv
  obtain ⟨rfl, hsz, hP, hK, hD0, hT, hs_q1⟩ := hv
  have hx := B.exec
  have hb := B.bytes
  have hr := B.returns
  have hts : ∀ w ∈ WALL, w.before _ s = true := fun w h => atoms_spec (ws := ws_X5_passWord) B.pre w (List.mem_cons_of_mem _ h)
  have hown : s.vm.findClass RX5 = some m.cls := findClass_of_methodNamed B.named
  have hlocks := B.notSynchronized
  subst hsz
  have hD := hD0.self (sz := s.heap.size)
  generalize hAe : va_A (w_X5_passWord C q q_draft q_text q1 t1_bs t_code t_place t_length t_kind t_start t_next t_value t_text) s.heap.size = A at hD ⊢ hT hs_q1
  have hA : ∀ q : Nat, s.heap.size ≤ q → A q := fun q h => by rw [← hAe]; exact Or.inr h
  have hS : va_S A s.heap s.heap [] := va_S.rf
  have hl := lv_entry ([.ref q, .ref q1]) (n := 2) (Nat.le_of_ble_eq_true rfl)
  rw [lg_entry_eq]
  generalize (lg_sl ([.ref q, .ref q1]) ++ List.replicate (2 - (lg_sl ([.ref q, .ref q1])).length) Slot.unset).toArray = ls at hl ⊢
  have hl : lv_has ls 2 [(0, .ref q), (1, .ref q1)] := hl
  unfold wp_X5_passWord at hwp
  obtain ⟨H, hH⟩ : ∃ H, H = s.heap := ⟨_, rfl⟩
  obtain ⟨locs, hlo⟩ : ∃ z : List Loc, z = [] := ⟨_, rfl⟩
  have hP : va_P D vwCl [(q, .inr (5, [.ref q_draft, .int t_code, .int t_place, .ref q_text, .int t_length, .int t_kind, .int t_start, .int t_next, .int t_value])), (q_text, .inl (C 1, 600, .inl t_text))] H := by rw [hH]; exact hP
  have hD : va_D A [(q, .inr (5, [.ref q_draft, .int t_code, .int t_place, .ref q_text, .int t_length, .int t_kind, .int t_start, .int t_next, .int t_value])), (q_text, .inl (C 1, 600, .inl t_text))] := hD
  have hS : va_S A s.heap H locs := by rw [hH, hlo]; exact hS
  suffices K : W p l e (headSpec ws_X5_passWord rm_X5_passWord).room s m ([.ref q, .ref q1] : List Value).toArray below meth c H locs 0 0 (MQ below (q_X5_passWord D C q q_draft q_text q1 t1_bs t_length t_text Q A) ([.ref q, .ref q1] : List Value).toArray s 0 0 A) (F0 m 0 ls []) from by rw [hH, hlo] at K; exact K
  refine lv_aload_n hx hb dX5_passWord_0 rfl (lv_at hl 0 rfl) ?_
  refine lv_aload_n hx hb dX5_passWord_1 rfl (lv_at hl 1 rfl) ?_
  have hPc := hP.sub (ws' := [(q, .inr (5, [.ref q_draft, .int t_code, .int t_place, .ref q_text, .int t_length, .int t_kind, .int t_start, .int t_next, .int t_value])), (q_text, .inl (C 1, 600, .inl t_text))]) [0, 1] rfl
  have hDc := hD.sub (ws' := [(q, .inr (5, [.ref q_draft, .int t_code, .int t_place, .ref q_text, .int t_length, .int t_kind, .int t_start, .int t_next, .int t_value])), (q_text, .inl (C 1, 600, .inl t_text))]) [0, 1] (by decide) rfl
  have hFc := va_free (wc := [(q, .inr (5, [.ref q_draft, .int t_code, .int t_place, .ref q_text, .int t_length, .int t_kind, .int t_start, .int t_next, .int t_value])), (q_text, .inl (C 1, 600, .inl t_text))]) hD hS hA [0, 1] rfl
  refine va_calli (va_runV (As := [.ref q1]) (rest := []) ⟨hx, hb, hml, hown, hts⟩ (met_X5_isWord l hst D C q q_draft q_text q1 t1_bs t_code t_place t_length t_kind t_start t_next t_value t_text H.size _ hwp) (cwV 1 hts gc_X5_86 rfl rfl rfl (by decide +kernel) ⟨Nat.le_of_ble_eq_true rfl, Nat.le_of_ble_eq_true rfl⟩) ⟨fun a U g mk q => by obtain ⟨q0, q1, qP, qK, qD, qT, qS_q1⟩ := q; exact ⟨q0, q1, qP, va_K.moved (u := U) (U := U.calling g mk a) (Vm.Alike.refl U.vm) qK, qD, qT.mv (U := U.calling g mk a) (State.WarmedH.refl U), qS_q1.moved (U := U.calling g mk a) (Vm.Alike.refl U.vm)⟩, va_recv hK hPc (ci := 5) (q0 := 0) rfl rfl, fun U hU hW => ⟨rfl, by rw [hU], by rw [hU]; exact hPc, va_K.moved hW.alike hK, hDc.weaken (fun _ _ _ _ => trivial), hT.call hS hFc hU hW, hs_q1.call hS hFc hU hW⟩⟩ rfl rfl hl.1 rfl (lv_room (Nat.le_of_ble_eq_true rfl)) dX5_passWord_2 ⟨Nat.zero_le _, Nat.zero_le _⟩) hS (fun q _ h => hFc q h) hFc (fun r2 u t H1 locs ht hvm hwp hB hz1 hk1 hS => ?_)
  obtain ⟨hP1, -, hD1⟩ := hB
  rw [ht] at hP1
  obtain ⟨hP, hD⟩ := va_join (wr := []) (w1 := [(q, .inr (5, [.ref q_draft, .int t_code, .int t_place, .ref q_text, .int t_length, .int t_kind, .int t_start, .int t_next, .int t_value])), (q_text, .inl (C 1, 600, .inl t_text))]) hP hD [0, 1] [] rfl rfl (by decide) (by decide) hk1 hFc hP1 hD1
  generalize H1 = H at hP hS ⊢
  have hP : va_P D vwCl [(q, .inr (5, [.ref q_draft, .int t_code, .int t_place, .ref q_text, .int t_length, .int t_kind, .int t_start, .int t_next, .int t_value])), (q_text, .inl (C 1, 600, .inl t_text))] H := hP
  have hD : va_D A [(q, .inr (5, [.ref q_draft, .int t_code, .int t_place, .ref q_text, .int t_length, .int t_kind, .int t_start, .int t_next, .int t_value])), (q_text, .inl (C 1, 600, .inl t_text))] := hD
  refine lv_if_ne (tgt := 14) hx hb dX5_passWord_5 (by decide) (fun c5 => ?_) (fun c5 => ?_)
  · have hwp := hwp.1 c5
    refine lv_aload_n hx hb dX5_passWord_14 rfl (lv_at hl 0 rfl) ?_
    have hPc := hP.sub (ws' := [(q, .inr (5, [.ref q_draft, .int t_code, .int t_place, .ref q_text, .int t_length, .int t_kind, .int t_start, .int t_next, .int t_value])), (q_text, .inl (C 1, 600, .inl t_text))]) [0, 1] rfl
    have hDc := hD.sub (ws' := [(q, .inr (5, [.ref q_draft, .int t_code, .int t_place, .ref q_text, .int t_length, .int t_kind, .int t_start, .int t_next, .int t_value])), (q_text, .inl (C 1, 600, .inl t_text))]) [0, 1] (by decide) rfl
    have hFc := va_free (wc := [(q, .inr (5, [.ref q_draft, .int t_code, .int t_place, .ref q_text, .int t_length, .int t_kind, .int t_start, .int t_next, .int t_value])), (q_text, .inl (C 1, 600, .inl t_text))]) hD hS hA [0, 1] rfl
    refine va_callv (va_runV (As := []) (rest := []) ⟨hx, hb, hml, hown, hts⟩ (met_X5_advance l D C q q_draft q_text t_code t_place t_length t_kind t_start t_next t_value t_text H.size _ hwp) (cwV 0 hts gc_X5_44 rfl rfl rfl (by decide +kernel) ⟨Nat.le_of_ble_eq_true rfl, Nat.le_of_ble_eq_true rfl⟩) ⟨fun a U g mk q => by obtain ⟨q0, q1, qP, qK, qD⟩ := q; exact ⟨q0, q1, qP, va_K.moved (u := U) (U := U.calling g mk a) (Vm.Alike.refl U.vm) qK, qD⟩, va_recv hK hPc (ci := 5) (q0 := 0) rfl rfl, fun U hU hW => ⟨rfl, by rw [hU], by rw [hU]; exact hPc, va_K.moved hW.alike hK, hDc.weaken (fun _ _ _ _ => trivial)⟩⟩ rfl rfl hl.1 rfl (lv_room (Nat.le_of_ble_eq_true rfl)) dX5_passWord_15 ⟨Nat.zero_le _, Nat.zero_le _⟩) hS (fun q _ h => hFc q h) hFc (fun u t H1 locs ht hvm hwp hB hz1 hk1 hS => ?_)
    obtain ⟨u15_1, u15_2, u15_3, u15_4⟩ := u
    obtain ⟨hP1, -, hD1⟩ := hB
    rw [ht] at hP1
    obtain ⟨hP, hD⟩ := va_join (wr := []) (w1 := [(q, .inr (5, [.ref q_draft, .int t_code, .int t_place, .ref q_text, .int t_length, .int u15_1, .int u15_2, .int u15_3, .int u15_4])), (q_text, .inl (C 1, 600, .inl t_text))]) hP hD [0, 1] [] rfl rfl (by decide) (by decide) hk1 hFc hP1 hD1
    generalize H1 = H at hP hS ⊢
    have hP : va_P D vwCl [(q, .inr (5, [.ref q_draft, .int t_code, .int t_place, .ref q_text, .int t_length, .int u15_1, .int u15_2, .int u15_3, .int u15_4])), (q_text, .inl (C 1, 600, .inl t_text))] H := hP
    have hD : va_D A [(q, .inr (5, [.ref q_draft, .int t_code, .int t_place, .ref q_text, .int t_length, .int u15_1, .int u15_2, .int u15_3, .int u15_4])), (q_text, .inl (C 1, 600, .inl t_text))] := hD
    refine lv_iconst (v := 1) hx hb dX5_passWord_18 (by decide) ?_
    have hP9 := hP.sub (ws' := [(q, .inr (5, [.ref q_draft, .int t_code, .int t_place, .ref q_text, .int t_length, .int u15_1, .int u15_2, .int u15_3, .int u15_4])), (q_text, .inl (C 1, 600, .inl t_text))]) [0, 1] rfl
    have hD9 := hD.sub (ws' := [(q, .inr (5, [.ref q_draft, .int t_code, .int t_place, .ref q_text, .int t_length, .int u15_1, .int u15_2, .int u15_3, .int u15_4])), (q_text, .inl (C 1, 600, .inl t_text))]) [0, 1] (by decide) rfl
    exact W.zret (v := (1 : Int32)) (ty := .boolean) hx hb hr rfl (fun t ht hW => ⟨⟨(1 : Int32), (t_code, t_place, u15_1, u15_2, u15_3, u15_4), rfl, hwp, by rw [ht]; exact hP9, va_K.moved hW.alike hK, hD9⟩, hS.F ht⟩) hS.2.2 dX5_passWord_19
  · have hwp := hwp.2 c5
    refine lv_aload_n hx hb dX5_passWord_8 rfl (lv_at hl 0 rfl) ?_
    refine lv_iconst (v := 1) hx hb dX5_passWord_9 (by decide) ?_
    have hPc := hP.sub (ws' := [(q, .inr (5, [.ref q_draft, .int t_code, .int t_place, .ref q_text, .int t_length, .int t_kind, .int t_start, .int t_next, .int t_value]))]) [0] rfl
    have hDc := hD.sub (ws' := [(q, .inr (5, [.ref q_draft, .int t_code, .int t_place, .ref q_text, .int t_length, .int t_kind, .int t_start, .int t_next, .int t_value]))]) [0] (by decide) rfl
    have hFc := va_free (wc := [(q, .inr (5, [.ref q_draft, .int t_code, .int t_place, .ref q_text, .int t_length, .int t_kind, .int t_start, .int t_next, .int t_value]))]) hD hS hA [0] rfl
    refine va_calli (va_runV (As := [.int (1 : Int32)]) (rest := []) ⟨hx, hb, hml, hown, hts⟩ (met_X5_fail l D C q q_draft q_text (1 : Int32) t_code t_place t_length t_kind t_start t_next t_value H.size _ hwp) (cwV 1 hts gc_X5_90 rfl rfl rfl (by decide +kernel) ⟨Nat.le_of_ble_eq_true rfl, Nat.le_of_ble_eq_true rfl⟩) ⟨fun a U g mk q => by obtain ⟨q0, q1, qP, qK, qD⟩ := q; exact ⟨q0, q1, qP, va_K.moved (u := U) (U := U.calling g mk a) (Vm.Alike.refl U.vm) qK, qD⟩, va_recv hK hPc (ci := 5) (q0 := 0) rfl rfl, fun U hU hW => ⟨rfl, by rw [hU], by rw [hU]; exact hPc, va_K.moved hW.alike hK, hDc.weaken (fun _ _ _ _ => trivial)⟩⟩ rfl rfl hl.1 rfl (lv_room (Nat.le_of_ble_eq_true rfl)) dX5_passWord_10 ⟨Nat.zero_le _, Nat.zero_le _⟩) hS (fun q _ h => hFc q h) hFc (fun r10 u t H1 locs ht hvm hwp hB hz1 hk1 hS => ?_)
    obtain ⟨u10_5, u10_6⟩ := u
    obtain ⟨hP1, -, hD1⟩ := hB
    rw [ht] at hP1
    obtain ⟨hP, hD⟩ := va_join (wr := [(q_text, .inl (C 1, 600, .inl t_text))]) (w1 := [(q, .inr (5, [.ref q_draft, .int u10_5, .int u10_6, .ref q_text, .int t_length, .int t_kind, .int t_start, .int t_next, .int t_value]))]) hP hD [0] [1] rfl rfl (by decide) (by decide) hk1 hFc hP1 hD1
    generalize H1 = H at hP hS ⊢
    have hP : va_P D vwCl [(q_text, .inl (C 1, 600, .inl t_text)), (q, .inr (5, [.ref q_draft, .int u10_5, .int u10_6, .ref q_text, .int t_length, .int t_kind, .int t_start, .int t_next, .int t_value]))] H := hP
    have hD : va_D A [(q_text, .inl (C 1, 600, .inl t_text)), (q, .inr (5, [.ref q_draft, .int u10_5, .int u10_6, .ref q_text, .int t_length, .int t_kind, .int t_start, .int t_next, .int t_value]))] := hD
    have hP9 := hP.sub (ws' := [(q, .inr (5, [.ref q_draft, .int u10_5, .int u10_6, .ref q_text, .int t_length, .int t_kind, .int t_start, .int t_next, .int t_value])), (q_text, .inl (C 1, 600, .inl t_text))]) [1, 0] rfl
    have hD9 := hD.sub (ws' := [(q, .inr (5, [.ref q_draft, .int u10_5, .int u10_6, .ref q_text, .int t_length, .int t_kind, .int t_start, .int t_next, .int t_value])), (q_text, .inl (C 1, 600, .inl t_text))]) [1, 0] (by decide) rfl
    obtain ⟨hn9, hwp⟩ := hwp
    exact W.zret (v := r10) (ty := .boolean) hx hb hr hn9 (fun t ht hW => ⟨⟨r10, (u10_5, u10_6, t_kind, t_start, t_next, t_value), rfl, hwp, by rw [ht]; exact hP9, va_K.moved hW.alike hK, hD9⟩, hS.F ht⟩) hS.2.2 dX5_passWord_13
abbrev ws_X5_readFrame : List Cond := .code yX5_readFrame cX5_readFrame 1 (some .boolean) :: WALL
theorem gc_X5_99 : GoodIn WALL (wsV RX5 99 RX5 yX5_passWord ws_X5_passWord) := gc_v wd_912 wd_914 wd_6 wd_36 wd_915
abbrev rm_X5_readFrame : Room := { frames := 6, cells := 0, slots := 0, locals := 128 }
abbrev w_X5_readFrame (C : Nat → ClassId) (q : Nat) (q_draft : Nat) (q_text : Nat) (q_draft_weight : Nat) (q_draft_gain : Nat) (q_draft_joy : Nat) (q_draft_bars : Nat) (q_draft_needs : Nat) (t_code : Int32) (t_place : Int32) (t_length : Int32) (t_kind : Int32) (t_start : Int32) (t_next : Int32) (t_value : Int32) (t_text : Nat → Int32) (t_draft_items : Int32) (t_draft_capacity : Int32) (t_draft_limit : Int32) (t_draft_mustSet : Int32) (t_draft_neverSet : Int32) (t_draft_hand : Int32) : va_W := [(q, .inr (5, [.ref q_draft, .int t_code, .int t_place, .ref q_text, .int t_length, .int t_kind, .int t_start, .int t_next, .int t_value])), (q_text, .inl (C 1, 600, .inl t_text)), (q_draft, .inr (8, [.int t_draft_items, .int t_draft_capacity, .int t_draft_limit, .int t_draft_mustSet, .int t_draft_neverSet, .int t_draft_hand, .ref q_draft_weight, .ref q_draft_gain, .ref q_draft_joy, .ref q_draft_bars, .ref q_draft_needs]))]
abbrev q_X5_readFrame (D : va_G) (C : Nat → ClassId) (q : Nat) (q_draft : Nat) (q_text : Nat) (q_draft_weight : Nat) (q_draft_gain : Nat) (q_draft_joy : Nat) (q_draft_bars : Nat) (q_draft_needs : Nat) (t_length : Int32) (t_text : Nat → Int32) (t_draft_items : Int32) (t_draft_mustSet : Int32) (t_draft_neverSet : Int32) (t_draft_hand : Int32) (Q : Int32 → Int32 → Int32 → Int32 → Int32 → Int32 → Int32 → Int32 → Int32 → Prop) (A : Nat → Prop) : Array Value → State → Outcome → State → Prop := va_Qi (fun (r : Int32) (u : Int32 × Int32 × Int32 × Int32 × Int32 × Int32 × Int32 × Int32) => Q r u.1 u.2.1 u.2.2.1 u.2.2.2.1 u.2.2.2.2.1 u.2.2.2.2.2.1 u.2.2.2.2.2.2.1 u.2.2.2.2.2.2.2) (fun (u : Int32 × Int32 × Int32 × Int32 × Int32 × Int32 × Int32 × Int32) (t : State) => va_P D vwCl (w_X5_readFrame C q q_draft q_text q_draft_weight q_draft_gain q_draft_joy q_draft_bars q_draft_needs u.1 u.2.1 t_length u.2.2.1 u.2.2.2.1 u.2.2.2.2.1 u.2.2.2.2.2.1 t_text t_draft_items u.2.2.2.2.2.2.1 u.2.2.2.2.2.2.2 t_draft_mustSet t_draft_neverSet t_draft_hand) t.heap ∧ va_K D vwCl (tyL C) t ∧ va_D A (w_X5_readFrame C q q_draft q_text q_draft_weight q_draft_gain q_draft_joy q_draft_bars q_draft_needs u.1 u.2.1 t_length u.2.2.1 u.2.2.2.1 u.2.2.2.2.1 u.2.2.2.2.2.1 t_text t_draft_items u.2.2.2.2.2.2.1 u.2.2.2.2.2.2.2 t_draft_mustSet t_draft_neverSet t_draft_hand)) A
set_option maxHeartbeats 4000000 in
set_option maxRecDepth 100000 in
theorem met_X5_readFrame (l : Launch) (hst : l.stackTraces = false) (D : va_G) (C : Nat → ClassId) (q : Nat) (q_draft : Nat) (q_text : Nat) (q_draft_weight : Nat) (q_draft_gain : Nat) (q_draft_joy : Nat) (q_draft_bars : Nat) (q_draft_needs : Nat) (t_code : Int32) (t_place : Int32) (t_length : Int32) (t_kind : Int32) (t_start : Int32) (t_next : Int32) (t_value : Int32) (t_text : Nat → Int32) (t_draft_items : Int32) (t_draft_capacity : Int32) (t_draft_limit : Int32) (t_draft_mustSet : Int32) (t_draft_neverSet : Int32) (t_draft_hand : Int32) (sz : Nat) (Q : Int32 → Int32 → Int32 → Int32 → Int32 → Int32 → Int32 → Int32 → Int32 → Prop) (hwp : wp_X5_readFrame t_code t_place t_length t_kind t_start t_next t_value t_text t_draft_capacity t_draft_limit Q) : Met l yX5_readFrame ws_X5_readFrame rm_X5_readFrame (va_Pc [.ref q] (fun U => U.heap.size = sz ∧ va_P D vwCl (w_X5_readFrame C q q_draft q_text q_draft_weight q_draft_gain q_draft_joy q_draft_bars q_draft_needs t_code t_place t_length t_kind t_start t_next t_value t_text t_draft_items t_draft_capacity t_draft_limit t_draft_mustSet t_draft_neverSet t_draft_hand) U.heap ∧ va_K D vwCl (tyL C) U ∧ va_D (fun _ => True) (w_X5_readFrame C q q_draft q_text q_draft_weight q_draft_gain q_draft_joy q_draft_bars q_draft_needs t_code t_place t_length t_kind t_start t_next t_value t_text t_draft_items t_draft_capacity t_draft_limit t_draft_mustSet t_draft_neverSet t_draft_hand) ∧ TX (va_A (w_X5_readFrame C q q_draft q_text q_draft_weight q_draft_gain q_draft_joy q_draft_bars q_draft_needs t_code t_place t_length t_kind t_start t_next t_value t_text t_draft_items t_draft_capacity t_draft_limit t_draft_mustSet t_draft_neverSet t_draft_hand) sz) U U.heap)) (q_X5_readFrame D C q q_draft q_text q_draft_weight q_draft_gain q_draft_joy q_draft_bars q_draft_needs t_length t_text t_draft_items t_draft_mustSet t_draft_neverSet t_draft_hand Q (va_A (w_X5_readFrame C q q_draft q_text q_draft_weight q_draft_gain q_draft_joy q_draft_bars q_draft_needs t_code t_place t_length t_kind t_start t_next t_value t_text t_draft_items t_draft_capacity t_draft_limit t_draft_mustSet t_draft_neverSet t_draft_hand) sz)) 0 0 (va_A (w_X5_readFrame C q q_draft q_text q_draft_weight q_draft_gain q_draft_joy q_draft_bars q_draft_needs t_code t_place t_length t_kind t_start t_next t_value t_text t_draft_items t_draft_capacity t_draft_limit t_draft_mustSet t_draft_neverSet t_draft_hand) sz) := by
  refine Met.ofW (cc := cX5_readFrame) (maxL := 1) (ret := (some .boolean)) (by decide) rfl ?_
  intro p e s m args below meth c s₁ B hml hv
  obtain ⟨rfl, hsz, hP, hK, hD0, hT⟩ := hv
  have hx := B.exec
  have hb := B.bytes
  have hr := B.returns
  have hts : ∀ w ∈ WALL, w.before _ s = true := fun w h => atoms_spec (ws := ws_X5_readFrame) B.pre w (List.mem_cons_of_mem _ h)
  have hown : s.vm.findClass RX5 = some m.cls := findClass_of_methodNamed B.named
  have hlocks := B.notSynchronized
  subst hsz
  have hD := hD0.self (sz := s.heap.size)
  generalize hAe : va_A (w_X5_readFrame C q q_draft q_text q_draft_weight q_draft_gain q_draft_joy q_draft_bars q_draft_needs t_code t_place t_length t_kind t_start t_next t_value t_text t_draft_items t_draft_capacity t_draft_limit t_draft_mustSet t_draft_neverSet t_draft_hand) s.heap.size = A at hD ⊢ hT
  have hA : ∀ q : Nat, s.heap.size ≤ q → A q := fun q h => by rw [← hAe]; exact Or.inr h
  have hS : va_S A s.heap s.heap [] := va_S.rf
  have hl := lv_entry ([.ref q]) (n := 1) (Nat.le_of_ble_eq_true rfl)
  rw [lg_entry_eq]
  generalize (lg_sl ([.ref q]) ++ List.replicate (1 - (lg_sl ([.ref q])).length) Slot.unset).toArray = ls at hl ⊢
  have hl : lv_has ls 1 [(0, .ref q)] := hl
  unfold wp_X5_readFrame at hwp
  obtain ⟨H, hH⟩ : ∃ H, H = s.heap := ⟨_, rfl⟩
  obtain ⟨locs, hlo⟩ : ∃ z : List Loc, z = [] := ⟨_, rfl⟩
  have hP : va_P D vwCl [(q, .inr (5, [.ref q_draft, .int t_code, .int t_place, .ref q_text, .int t_length, .int t_kind, .int t_start, .int t_next, .int t_value])), (q_text, .inl (C 1, 600, .inl t_text)), (q_draft, .inr (8, [.int t_draft_items, .int t_draft_capacity, .int t_draft_limit, .int t_draft_mustSet, .int t_draft_neverSet, .int t_draft_hand, .ref q_draft_weight, .ref q_draft_gain, .ref q_draft_joy, .ref q_draft_bars, .ref q_draft_needs]))] H := by rw [hH]; exact hP
  have hD : va_D A [(q, .inr (5, [.ref q_draft, .int t_code, .int t_place, .ref q_text, .int t_length, .int t_kind, .int t_start, .int t_next, .int t_value])), (q_text, .inl (C 1, 600, .inl t_text)), (q_draft, .inr (8, [.int t_draft_items, .int t_draft_capacity, .int t_draft_limit, .int t_draft_mustSet, .int t_draft_neverSet, .int t_draft_hand, .ref q_draft_weight, .ref q_draft_gain, .ref q_draft_joy, .ref q_draft_bars, .ref q_draft_needs]))] := hD
  have hS : va_S A s.heap H locs := by rw [hH, hlo]; exact hS
  suffices K : W p l e (headSpec ws_X5_readFrame rm_X5_readFrame).room s m ([.ref q] : List Value).toArray below meth c H locs 0 0 (MQ below (q_X5_readFrame D C q q_draft q_text q_draft_weight q_draft_gain q_draft_joy q_draft_bars q_draft_needs t_length t_text t_draft_items t_draft_mustSet t_draft_neverSet t_draft_hand Q A) ([.ref q] : List Value).toArray s 0 0 A) (F0 m 0 ls []) from by rw [hH, hlo] at K; exact K
  refine lv_aload_n hx hb dX5_readFrame_0 rfl (lv_at hl 0 rfl) ?_
  refine va_get (D := D) (ci := 5) (v := .ref q_draft) (C := RX5) (T := TX5) (N := 9) hx hb hts iwX5 hown hK hP 0 rfl rfl 0 (by decide) (hts (.fieldLink RX5 12 "ParetoDesk$Parser" "draft" "LParetoDesk$Setup;") wd_147) (fun _ h9 => h9) rfl dX5_readFrame_1 ?_
  refine lv_aload_n hx hb dX5_readFrame_4 rfl (lv_at hl 0 rfl) ?_
  obtain ⟨sa5, hr_sa5, hs_sa5⟩ := hT.2.2.2.2.2.1 ("ParetoDesk$Parser", 97, "capacity", [99, 97, 112, 97, 99, 105, 116, 121]) (by decide)
  refine va_ldcS (own := RX5) (tx := "capacity") hx hb hown hr_sa5 dX5_readFrame_5 ?_
  have hPc := hP.sub (ws' := [(q, .inr (5, [.ref q_draft, .int t_code, .int t_place, .ref q_text, .int t_length, .int t_kind, .int t_start, .int t_next, .int t_value])), (q_text, .inl (C 1, 600, .inl t_text))]) [0, 1] rfl
  have hDc := hD.sub (ws' := [(q, .inr (5, [.ref q_draft, .int t_code, .int t_place, .ref q_text, .int t_length, .int t_kind, .int t_start, .int t_next, .int t_value])), (q_text, .inl (C 1, 600, .inl t_text))]) [0, 1] (by decide) rfl
  have hFc := va_free (wc := [(q, .inr (5, [.ref q_draft, .int t_code, .int t_place, .ref q_text, .int t_length, .int t_kind, .int t_start, .int t_next, .int t_value])), (q_text, .inl (C 1, 600, .inl t_text))]) hD hS hA [0, 1] rfl
  refine va_calli (va_runV (As := [.ref sa5]) (rest := [.ref q_draft]) ⟨hx, hb, hml, hown, hts⟩ (met_X5_passWord l hst D C q q_draft q_text sa5 ([99, 97, 112, 97, 99, 105, 116, 121]) t_code t_place t_length t_kind t_start t_next t_value t_text H.size _ hwp) (cwV 1 hts gc_X5_99 rfl rfl rfl (by decide +kernel) ⟨Nat.le_of_ble_eq_true rfl, Nat.le_of_ble_eq_true rfl⟩) ⟨fun a U g mk q => by obtain ⟨q0, q1, qP, qK, qD, qT, qS_q1⟩ := q; exact ⟨q0, q1, qP, va_K.moved (u := U) (U := U.calling g mk a) (Vm.Alike.refl U.vm) qK, qD, qT.mv (U := U.calling g mk a) (State.WarmedH.refl U), qS_q1.moved (U := U.calling g mk a) (Vm.Alike.refl U.vm)⟩, va_recv hK hPc (ci := 5) (q0 := 0) rfl rfl, fun U hU hW => ⟨rfl, by rw [hU], by rw [hU]; exact hPc, va_K.moved hW.alike hK, hDc.weaken (fun _ _ _ _ => trivial), hT.call hS hFc hU hW, hs_sa5.call hS hFc hU hW⟩⟩ rfl rfl hl.1 rfl (lv_room (Nat.le_of_ble_eq_true rfl)) dX5_readFrame_7 ⟨Nat.zero_le _, Nat.zero_le _⟩) hS (fun q _ h => hFc q h) hFc (fun r7 u t H1 locs ht hvm hwp hB hz1 hk1 hS => ?_)
  obtain ⟨u7_1, u7_2, u7_3, u7_4, u7_5, u7_6⟩ := u
  obtain ⟨hP1, -, hD1⟩ := hB
  rw [ht] at hP1
  obtain ⟨hP, hD⟩ := va_join (wr := [(q_draft, .inr (8, [.int t_draft_items, .int t_draft_capacity, .int t_draft_limit, .int t_draft_mustSet, .int t_draft_neverSet, .int t_draft_hand, .ref q_draft_weight, .ref q_draft_gain, .ref q_draft_joy, .ref q_draft_bars, .ref q_draft_needs]))]) (w1 := [(q, .inr (5, [.ref q_draft, .int u7_1, .int u7_2, .ref q_text, .int t_length, .int u7_3, .int u7_4, .int u7_5, .int u7_6])), (q_text, .inl (C 1, 600, .inl t_text))]) hP hD [0, 1] [2] rfl rfl (by decide) (by decide) hk1 hFc hP1 hD1
  generalize H1 = H at hP hS ⊢
  have hP : va_P D vwCl [(q_draft, .inr (8, [.int t_draft_items, .int t_draft_capacity, .int t_draft_limit, .int t_draft_mustSet, .int t_draft_neverSet, .int t_draft_hand, .ref q_draft_weight, .ref q_draft_gain, .ref q_draft_joy, .ref q_draft_bars, .ref q_draft_needs])), (q, .inr (5, [.ref q_draft, .int u7_1, .int u7_2, .ref q_text, .int t_length, .int u7_3, .int u7_4, .int u7_5, .int u7_6])), (q_text, .inl (C 1, 600, .inl t_text))] H := hP
  have hD : va_D A [(q_draft, .inr (8, [.int t_draft_items, .int t_draft_capacity, .int t_draft_limit, .int t_draft_mustSet, .int t_draft_neverSet, .int t_draft_hand, .ref q_draft_weight, .ref q_draft_gain, .ref q_draft_joy, .ref q_draft_bars, .ref q_draft_needs])), (q, .inr (5, [.ref q_draft, .int u7_1, .int u7_2, .ref q_text, .int t_length, .int u7_3, .int u7_4, .int u7_5, .int u7_6])), (q_text, .inl (C 1, 600, .inl t_text))] := hD
  refine lv_if_eq (tgt := 23) hx hb dX5_readFrame_10 (by decide) (fun c10 => ?_) (fun c10 => ?_)
  · have hwp := hwp.1 c10
    refine lv_iconst (v := (-1)) hx hb dX5_readFrame_23 (by decide) ?_
    refine va_put (D := D) (ci := 8) (v := .int (-1 : Int32)) (ty := .int) (C := RX8) (T := TX8) (N := 11) hx hb hts iwX8 tyX8 tyX8_ok nmX8 hown hK hP hD hS 0 rfl rfl 1 (by decide) (hts (.fieldLink RX5 106 "ParetoDesk$Setup" "capacity" "I") wd_90) (fun _ h9 => h9) rfl (by decide +kernel) rfl rfl (Nat.le_of_ble_eq_true rfl) dX5_readFrame_24 (fun H locs hP hD hS => ?_)
    have hP : va_P D vwCl [(q_draft, .inr (8, [.int t_draft_items, .int (-1 : Int32), .int t_draft_limit, .int t_draft_mustSet, .int t_draft_neverSet, .int t_draft_hand, .ref q_draft_weight, .ref q_draft_gain, .ref q_draft_joy, .ref q_draft_bars, .ref q_draft_needs])), (q, .inr (5, [.ref q_draft, .int u7_1, .int u7_2, .ref q_text, .int t_length, .int u7_3, .int u7_4, .int u7_5, .int u7_6])), (q_text, .inl (C 1, 600, .inl t_text))] H := hP
    have hD : va_D A [(q_draft, .inr (8, [.int t_draft_items, .int (-1 : Int32), .int t_draft_limit, .int t_draft_mustSet, .int t_draft_neverSet, .int t_draft_hand, .ref q_draft_weight, .ref q_draft_gain, .ref q_draft_joy, .ref q_draft_bars, .ref q_draft_needs])), (q, .inr (5, [.ref q_draft, .int u7_1, .int u7_2, .ref q_text, .int t_length, .int u7_3, .int u7_4, .int u7_5, .int u7_6])), (q_text, .inl (C 1, 600, .inl t_text))] := hD
    refine lv_aload_n hx hb dX5_readFrame_27 rfl (lv_at hl 0 rfl) ?_
    refine va_get (D := D) (ci := 5) (v := .ref q_draft) (C := RX5) (T := TX5) (N := 9) hx hb hts iwX5 hown hK hP 1 rfl rfl 0 (by decide) (hts (.fieldLink RX5 12 "ParetoDesk$Parser" "draft" "LParetoDesk$Setup;") wd_147) (fun _ h9 => h9) rfl dX5_readFrame_28 ?_
    refine va_get (D := D) (ci := 8) (v := .int (-1 : Int32)) (C := RX8) (T := TX8) (N := 11) hx hb hts iwX8 hown hK hP 0 rfl rfl 1 (by decide) (hts (.fieldLink RX5 106 "ParetoDesk$Setup" "capacity" "I") wd_90) (fun _ h9 => h9) rfl dX5_readFrame_31 ?_
    refine lv_iconst (v := (-1)) hx hb dX5_readFrame_34 (by decide) ?_
    refine lv_icmp_ne (tgt := 40) hx hb dX5_readFrame_35 (by decide) (fun c35 => ?_) (fun c35 => ?_)
    · exact absurd c35 (by decide)
    · refine lv_iconst (v := 0) hx hb dX5_readFrame_38 (by decide) ?_
      have hP9 := hP.sub (ws' := [(q, .inr (5, [.ref q_draft, .int u7_1, .int u7_2, .ref q_text, .int t_length, .int u7_3, .int u7_4, .int u7_5, .int u7_6])), (q_text, .inl (C 1, 600, .inl t_text)), (q_draft, .inr (8, [.int t_draft_items, .int (-1 : Int32), .int t_draft_limit, .int t_draft_mustSet, .int t_draft_neverSet, .int t_draft_hand, .ref q_draft_weight, .ref q_draft_gain, .ref q_draft_joy, .ref q_draft_bars, .ref q_draft_needs]))]) [1, 2, 0] rfl
      have hD9 := hD.sub (ws' := [(q, .inr (5, [.ref q_draft, .int u7_1, .int u7_2, .ref q_text, .int t_length, .int u7_3, .int u7_4, .int u7_5, .int u7_6])), (q_text, .inl (C 1, 600, .inl t_text)), (q_draft, .inr (8, [.int t_draft_items, .int (-1 : Int32), .int t_draft_limit, .int t_draft_mustSet, .int t_draft_neverSet, .int t_draft_hand, .ref q_draft_weight, .ref q_draft_gain, .ref q_draft_joy, .ref q_draft_bars, .ref q_draft_needs]))]) [1, 2, 0] (by decide) rfl
      exact W.zret (v := (0 : Int32)) (ty := .boolean) hx hb hr rfl (fun t ht hW => ⟨⟨(0 : Int32), (u7_1, u7_2, u7_3, u7_4, u7_5, u7_6, (-1 : Int32), t_draft_limit), rfl, hwp, by rw [ht]; exact hP9, va_K.moved hW.alike hK, hD9⟩, hS.F ht⟩) hS.2.2 dX5_readFrame_39
  · have hwp := hwp.2 c10
    refine lv_aload_n hx hb dX5_readFrame_13 rfl (lv_at hl 0 rfl) ?_
    refine lv_sipush (v := 999) hx hb dX5_readFrame_14 (by decide) ?_
    have hPc := hP.sub (ws' := [(q, .inr (5, [.ref q_draft, .int u7_1, .int u7_2, .ref q_text, .int t_length, .int u7_3, .int u7_4, .int u7_5, .int u7_6])), (q_text, .inl (C 1, 600, .inl t_text))]) [1, 2] rfl
    have hDc := hD.sub (ws' := [(q, .inr (5, [.ref q_draft, .int u7_1, .int u7_2, .ref q_text, .int t_length, .int u7_3, .int u7_4, .int u7_5, .int u7_6])), (q_text, .inl (C 1, 600, .inl t_text))]) [1, 2] (by decide) rfl
    have hFc := va_free (wc := [(q, .inr (5, [.ref q_draft, .int u7_1, .int u7_2, .ref q_text, .int t_length, .int u7_3, .int u7_4, .int u7_5, .int u7_6])), (q_text, .inl (C 1, 600, .inl t_text))]) hD hS hA [1, 2] rfl
    refine va_calli (va_runV (As := [.int (999 : Int32)]) (rest := [.ref q_draft]) ⟨hx, hb, hml, hown, hts⟩ (met_X5_passNumber l D C q q_draft q_text (999 : Int32) u7_1 u7_2 t_length u7_3 u7_4 u7_5 u7_6 t_text H.size _ hwp) (cwV 1 hts gc_X5_102 rfl rfl rfl (by decide +kernel) ⟨Nat.le_of_ble_eq_true rfl, Nat.le_of_ble_eq_true rfl⟩) ⟨fun a U g mk q => by obtain ⟨q0, q1, qP, qK, qD⟩ := q; exact ⟨q0, q1, qP, va_K.moved (u := U) (U := U.calling g mk a) (Vm.Alike.refl U.vm) qK, qD⟩, va_recv hK hPc (ci := 5) (q0 := 0) rfl rfl, fun U hU hW => ⟨rfl, by rw [hU], by rw [hU]; exact hPc, va_K.moved hW.alike hK, hDc.weaken (fun _ _ _ _ => trivial)⟩⟩ rfl rfl hl.1 rfl (lv_room (Nat.le_of_ble_eq_true rfl)) dX5_readFrame_17 ⟨Nat.zero_le _, Nat.zero_le _⟩) hS (fun q _ h => hFc q h) hFc (fun r17 u t H1 locs ht hvm hwp hB hz1 hk1 hS => ?_)
    obtain ⟨u17_7, u17_8, u17_9, u17_10, u17_11, u17_12⟩ := u
    obtain ⟨hP1, -, hD1⟩ := hB
    rw [ht] at hP1
    obtain ⟨hP, hD⟩ := va_join (wr := [(q_draft, .inr (8, [.int t_draft_items, .int t_draft_capacity, .int t_draft_limit, .int t_draft_mustSet, .int t_draft_neverSet, .int t_draft_hand, .ref q_draft_weight, .ref q_draft_gain, .ref q_draft_joy, .ref q_draft_bars, .ref q_draft_needs]))]) (w1 := [(q, .inr (5, [.ref q_draft, .int u17_7, .int u17_8, .ref q_text, .int t_length, .int u17_9, .int u17_10, .int u17_11, .int u17_12])), (q_text, .inl (C 1, 600, .inl t_text))]) hP hD [1, 2] [0] rfl rfl (by decide) (by decide) hk1 hFc hP1 hD1
    generalize H1 = H at hP hS ⊢
    have hP : va_P D vwCl [(q_draft, .inr (8, [.int t_draft_items, .int t_draft_capacity, .int t_draft_limit, .int t_draft_mustSet, .int t_draft_neverSet, .int t_draft_hand, .ref q_draft_weight, .ref q_draft_gain, .ref q_draft_joy, .ref q_draft_bars, .ref q_draft_needs])), (q, .inr (5, [.ref q_draft, .int u17_7, .int u17_8, .ref q_text, .int t_length, .int u17_9, .int u17_10, .int u17_11, .int u17_12])), (q_text, .inl (C 1, 600, .inl t_text))] H := hP
    have hD : va_D A [(q_draft, .inr (8, [.int t_draft_items, .int t_draft_capacity, .int t_draft_limit, .int t_draft_mustSet, .int t_draft_neverSet, .int t_draft_hand, .ref q_draft_weight, .ref q_draft_gain, .ref q_draft_joy, .ref q_draft_bars, .ref q_draft_needs])), (q, .inr (5, [.ref q_draft, .int u17_7, .int u17_8, .ref q_text, .int t_length, .int u17_9, .int u17_10, .int u17_11, .int u17_12])), (q_text, .inl (C 1, 600, .inl t_text))] := hD
    refine lv_goto (tgt := 24) hx hb dX5_readFrame_20 (by decide) ?_
    refine va_put (D := D) (ci := 8) (v := .int r17) (ty := .int) (C := RX8) (T := TX8) (N := 11) hx hb hts iwX8 tyX8 tyX8_ok nmX8 hown hK hP hD hS 0 rfl rfl 1 (by decide) (hts (.fieldLink RX5 106 "ParetoDesk$Setup" "capacity" "I") wd_90) (fun _ h9 => h9) rfl (by decide +kernel) rfl rfl (Nat.le_of_ble_eq_true rfl) dX5_readFrame_24 (fun H locs hP hD hS => ?_)
    have hP : va_P D vwCl [(q_draft, .inr (8, [.int t_draft_items, .int r17, .int t_draft_limit, .int t_draft_mustSet, .int t_draft_neverSet, .int t_draft_hand, .ref q_draft_weight, .ref q_draft_gain, .ref q_draft_joy, .ref q_draft_bars, .ref q_draft_needs])), (q, .inr (5, [.ref q_draft, .int u17_7, .int u17_8, .ref q_text, .int t_length, .int u17_9, .int u17_10, .int u17_11, .int u17_12])), (q_text, .inl (C 1, 600, .inl t_text))] H := hP
    have hD : va_D A [(q_draft, .inr (8, [.int t_draft_items, .int r17, .int t_draft_limit, .int t_draft_mustSet, .int t_draft_neverSet, .int t_draft_hand, .ref q_draft_weight, .ref q_draft_gain, .ref q_draft_joy, .ref q_draft_bars, .ref q_draft_needs])), (q, .inr (5, [.ref q_draft, .int u17_7, .int u17_8, .ref q_text, .int t_length, .int u17_9, .int u17_10, .int u17_11, .int u17_12])), (q_text, .inl (C 1, 600, .inl t_text))] := hD
    refine lv_aload_n hx hb dX5_readFrame_27 rfl (lv_at hl 0 rfl) ?_
    refine va_get (D := D) (ci := 5) (v := .ref q_draft) (C := RX5) (T := TX5) (N := 9) hx hb hts iwX5 hown hK hP 1 rfl rfl 0 (by decide) (hts (.fieldLink RX5 12 "ParetoDesk$Parser" "draft" "LParetoDesk$Setup;") wd_147) (fun _ h9 => h9) rfl dX5_readFrame_28 ?_
    refine va_get (D := D) (ci := 8) (v := .int r17) (C := RX8) (T := TX8) (N := 11) hx hb hts iwX8 hown hK hP 0 rfl rfl 1 (by decide) (hts (.fieldLink RX5 106 "ParetoDesk$Setup" "capacity" "I") wd_90) (fun _ h9 => h9) rfl dX5_readFrame_31 ?_
    refine lv_iconst (v := (-1)) hx hb dX5_readFrame_34 (by decide) ?_
    refine lv_icmp_ne (tgt := 40) hx hb dX5_readFrame_35 (by decide) (fun c35 => ?_) (fun c35 => ?_)
    · have hwp := hwp.1 c35
      refine lv_aload_n hx hb dX5_readFrame_40 rfl (lv_at hl 0 rfl) ?_
      refine va_get (D := D) (ci := 5) (v := .ref q_draft) (C := RX5) (T := TX5) (N := 9) hx hb hts iwX5 hown hK hP 1 rfl rfl 0 (by decide) (hts (.fieldLink RX5 12 "ParetoDesk$Parser" "draft" "LParetoDesk$Setup;") wd_147) (fun _ h9 => h9) rfl dX5_readFrame_41 ?_
      refine lv_aload_n hx hb dX5_readFrame_44 rfl (lv_at hl 0 rfl) ?_
      obtain ⟨sa45, hr_sa45, hs_sa45⟩ := hT.2.2.2.2.2.1 ("ParetoDesk$Parser", 108, "limit", [108, 105, 109, 105, 116]) (by decide)
      refine va_ldcS (own := RX5) (tx := "limit") hx hb hown hr_sa45 dX5_readFrame_45 ?_
      have hPc := hP.sub (ws' := [(q, .inr (5, [.ref q_draft, .int u17_7, .int u17_8, .ref q_text, .int t_length, .int u17_9, .int u17_10, .int u17_11, .int u17_12])), (q_text, .inl (C 1, 600, .inl t_text))]) [1, 2] rfl
      have hDc := hD.sub (ws' := [(q, .inr (5, [.ref q_draft, .int u17_7, .int u17_8, .ref q_text, .int t_length, .int u17_9, .int u17_10, .int u17_11, .int u17_12])), (q_text, .inl (C 1, 600, .inl t_text))]) [1, 2] (by decide) rfl
      have hFc := va_free (wc := [(q, .inr (5, [.ref q_draft, .int u17_7, .int u17_8, .ref q_text, .int t_length, .int u17_9, .int u17_10, .int u17_11, .int u17_12])), (q_text, .inl (C 1, 600, .inl t_text))]) hD hS hA [1, 2] rfl
      refine va_calli (va_runV (As := [.ref sa45]) (rest := [.ref q_draft]) ⟨hx, hb, hml, hown, hts⟩ (met_X5_passWord l hst D C q q_draft q_text sa45 ([108, 105, 109, 105, 116]) u17_7 u17_8 t_length u17_9 u17_10 u17_11 u17_12 t_text H.size _ hwp) (cwV 1 hts gc_X5_99 rfl rfl rfl (by decide +kernel) ⟨Nat.le_of_ble_eq_true rfl, Nat.le_of_ble_eq_true rfl⟩) ⟨fun a U g mk q => by obtain ⟨q0, q1, qP, qK, qD, qT, qS_q1⟩ := q; exact ⟨q0, q1, qP, va_K.moved (u := U) (U := U.calling g mk a) (Vm.Alike.refl U.vm) qK, qD, qT.mv (U := U.calling g mk a) (State.WarmedH.refl U), qS_q1.moved (U := U.calling g mk a) (Vm.Alike.refl U.vm)⟩, va_recv hK hPc (ci := 5) (q0 := 0) rfl rfl, fun U hU hW => ⟨rfl, by rw [hU], by rw [hU]; exact hPc, va_K.moved hW.alike hK, hDc.weaken (fun _ _ _ _ => trivial), hT.call hS hFc hU hW, hs_sa45.call hS hFc hU hW⟩⟩ rfl rfl hl.1 rfl (lv_room (Nat.le_of_ble_eq_true rfl)) dX5_readFrame_47 ⟨Nat.zero_le _, Nat.zero_le _⟩) hS (fun q _ h => hFc q h) hFc (fun r47 u t H1 locs ht hvm hwp hB hz1 hk1 hS => ?_)
      obtain ⟨u47_13, u47_14, u47_15, u47_16, u47_17, u47_18⟩ := u
      obtain ⟨hP1, -, hD1⟩ := hB
      rw [ht] at hP1
      obtain ⟨hP, hD⟩ := va_join (wr := [(q_draft, .inr (8, [.int t_draft_items, .int r17, .int t_draft_limit, .int t_draft_mustSet, .int t_draft_neverSet, .int t_draft_hand, .ref q_draft_weight, .ref q_draft_gain, .ref q_draft_joy, .ref q_draft_bars, .ref q_draft_needs]))]) (w1 := [(q, .inr (5, [.ref q_draft, .int u47_13, .int u47_14, .ref q_text, .int t_length, .int u47_15, .int u47_16, .int u47_17, .int u47_18])), (q_text, .inl (C 1, 600, .inl t_text))]) hP hD [1, 2] [0] rfl rfl (by decide) (by decide) hk1 hFc hP1 hD1
      generalize H1 = H at hP hS ⊢
      have hP : va_P D vwCl [(q_draft, .inr (8, [.int t_draft_items, .int r17, .int t_draft_limit, .int t_draft_mustSet, .int t_draft_neverSet, .int t_draft_hand, .ref q_draft_weight, .ref q_draft_gain, .ref q_draft_joy, .ref q_draft_bars, .ref q_draft_needs])), (q, .inr (5, [.ref q_draft, .int u47_13, .int u47_14, .ref q_text, .int t_length, .int u47_15, .int u47_16, .int u47_17, .int u47_18])), (q_text, .inl (C 1, 600, .inl t_text))] H := hP
      have hD : va_D A [(q_draft, .inr (8, [.int t_draft_items, .int r17, .int t_draft_limit, .int t_draft_mustSet, .int t_draft_neverSet, .int t_draft_hand, .ref q_draft_weight, .ref q_draft_gain, .ref q_draft_joy, .ref q_draft_bars, .ref q_draft_needs])), (q, .inr (5, [.ref q_draft, .int u47_13, .int u47_14, .ref q_text, .int t_length, .int u47_15, .int u47_16, .int u47_17, .int u47_18])), (q_text, .inl (C 1, 600, .inl t_text))] := hD
      refine lv_if_eq (tgt := 62) hx hb dX5_readFrame_50 (by decide) (fun c50 => ?_) (fun c50 => ?_)
      · have hwp := hwp.1 c50
        refine lv_iconst (v := (-1)) hx hb dX5_readFrame_62 (by decide) ?_
        refine va_put (D := D) (ci := 8) (v := .int (-1 : Int32)) (ty := .int) (C := RX8) (T := TX8) (N := 11) hx hb hts iwX8 tyX8 tyX8_ok nmX8 hown hK hP hD hS 0 rfl rfl 2 (by decide) (hts (.fieldLink RX5 110 "ParetoDesk$Setup" "limit" "I") wd_94) (fun _ h9 => h9) rfl (by decide +kernel) rfl rfl (Nat.le_of_ble_eq_true rfl) dX5_readFrame_63 (fun H locs hP hD hS => ?_)
        have hP : va_P D vwCl [(q_draft, .inr (8, [.int t_draft_items, .int r17, .int (-1 : Int32), .int t_draft_mustSet, .int t_draft_neverSet, .int t_draft_hand, .ref q_draft_weight, .ref q_draft_gain, .ref q_draft_joy, .ref q_draft_bars, .ref q_draft_needs])), (q, .inr (5, [.ref q_draft, .int u47_13, .int u47_14, .ref q_text, .int t_length, .int u47_15, .int u47_16, .int u47_17, .int u47_18])), (q_text, .inl (C 1, 600, .inl t_text))] H := hP
        have hD : va_D A [(q_draft, .inr (8, [.int t_draft_items, .int r17, .int (-1 : Int32), .int t_draft_mustSet, .int t_draft_neverSet, .int t_draft_hand, .ref q_draft_weight, .ref q_draft_gain, .ref q_draft_joy, .ref q_draft_bars, .ref q_draft_needs])), (q, .inr (5, [.ref q_draft, .int u47_13, .int u47_14, .ref q_text, .int t_length, .int u47_15, .int u47_16, .int u47_17, .int u47_18])), (q_text, .inl (C 1, 600, .inl t_text))] := hD
        refine lv_aload_n hx hb dX5_readFrame_66 rfl (lv_at hl 0 rfl) ?_
        refine va_get (D := D) (ci := 5) (v := .ref q_draft) (C := RX5) (T := TX5) (N := 9) hx hb hts iwX5 hown hK hP 1 rfl rfl 0 (by decide) (hts (.fieldLink RX5 12 "ParetoDesk$Parser" "draft" "LParetoDesk$Setup;") wd_147) (fun _ h9 => h9) rfl dX5_readFrame_67 ?_
        refine va_get (D := D) (ci := 8) (v := .int (-1 : Int32)) (C := RX8) (T := TX8) (N := 11) hx hb hts iwX8 hown hK hP 0 rfl rfl 2 (by decide) (hts (.fieldLink RX5 110 "ParetoDesk$Setup" "limit" "I") wd_94) (fun _ h9 => h9) rfl dX5_readFrame_70 ?_
        refine lv_iconst (v := (-1)) hx hb dX5_readFrame_73 (by decide) ?_
        refine lv_icmp_eq (tgt := 88) hx hb dX5_readFrame_74 (by decide) (fun c74 => ?_) (fun c74 => ?_)
        · refine lv_iconst (v := 0) hx hb dX5_readFrame_88 (by decide) ?_
          have hP9 := hP.sub (ws' := [(q, .inr (5, [.ref q_draft, .int u47_13, .int u47_14, .ref q_text, .int t_length, .int u47_15, .int u47_16, .int u47_17, .int u47_18])), (q_text, .inl (C 1, 600, .inl t_text)), (q_draft, .inr (8, [.int t_draft_items, .int r17, .int (-1 : Int32), .int t_draft_mustSet, .int t_draft_neverSet, .int t_draft_hand, .ref q_draft_weight, .ref q_draft_gain, .ref q_draft_joy, .ref q_draft_bars, .ref q_draft_needs]))]) [1, 2, 0] rfl
          have hD9 := hD.sub (ws' := [(q, .inr (5, [.ref q_draft, .int u47_13, .int u47_14, .ref q_text, .int t_length, .int u47_15, .int u47_16, .int u47_17, .int u47_18])), (q_text, .inl (C 1, 600, .inl t_text)), (q_draft, .inr (8, [.int t_draft_items, .int r17, .int (-1 : Int32), .int t_draft_mustSet, .int t_draft_neverSet, .int t_draft_hand, .ref q_draft_weight, .ref q_draft_gain, .ref q_draft_joy, .ref q_draft_bars, .ref q_draft_needs]))]) [1, 2, 0] (by decide) rfl
          exact W.zret (v := (0 : Int32)) (ty := .boolean) hx hb hr rfl (fun t ht hW => ⟨⟨(0 : Int32), (u47_13, u47_14, u47_15, u47_16, u47_17, u47_18, r17, (-1 : Int32)), rfl, hwp, by rw [ht]; exact hP9, va_K.moved hW.alike hK, hD9⟩, hS.F ht⟩) hS.2.2 dX5_readFrame_89
        · exact absurd c74 (by decide)
      · have hwp := hwp.2 c50
        refine lv_aload_n hx hb dX5_readFrame_53 rfl (lv_at hl 0 rfl) ?_
        refine lv_bipush (v := 12) hx hb dX5_readFrame_54 (by decide) ?_
        have hPc := hP.sub (ws' := [(q, .inr (5, [.ref q_draft, .int u47_13, .int u47_14, .ref q_text, .int t_length, .int u47_15, .int u47_16, .int u47_17, .int u47_18])), (q_text, .inl (C 1, 600, .inl t_text))]) [1, 2] rfl
        have hDc := hD.sub (ws' := [(q, .inr (5, [.ref q_draft, .int u47_13, .int u47_14, .ref q_text, .int t_length, .int u47_15, .int u47_16, .int u47_17, .int u47_18])), (q_text, .inl (C 1, 600, .inl t_text))]) [1, 2] (by decide) rfl
        have hFc := va_free (wc := [(q, .inr (5, [.ref q_draft, .int u47_13, .int u47_14, .ref q_text, .int t_length, .int u47_15, .int u47_16, .int u47_17, .int u47_18])), (q_text, .inl (C 1, 600, .inl t_text))]) hD hS hA [1, 2] rfl
        refine va_calli (va_runV (As := [.int (12 : Int32)]) (rest := [.ref q_draft]) ⟨hx, hb, hml, hown, hts⟩ (met_X5_passNumber l D C q q_draft q_text (12 : Int32) u47_13 u47_14 t_length u47_15 u47_16 u47_17 u47_18 t_text H.size _ hwp) (cwV 1 hts gc_X5_102 rfl rfl rfl (by decide +kernel) ⟨Nat.le_of_ble_eq_true rfl, Nat.le_of_ble_eq_true rfl⟩) ⟨fun a U g mk q => by obtain ⟨q0, q1, qP, qK, qD⟩ := q; exact ⟨q0, q1, qP, va_K.moved (u := U) (U := U.calling g mk a) (Vm.Alike.refl U.vm) qK, qD⟩, va_recv hK hPc (ci := 5) (q0 := 0) rfl rfl, fun U hU hW => ⟨rfl, by rw [hU], by rw [hU]; exact hPc, va_K.moved hW.alike hK, hDc.weaken (fun _ _ _ _ => trivial)⟩⟩ rfl rfl hl.1 rfl (lv_room (Nat.le_of_ble_eq_true rfl)) dX5_readFrame_56 ⟨Nat.zero_le _, Nat.zero_le _⟩) hS (fun q _ h => hFc q h) hFc (fun r56 u t H1 locs ht hvm hwp hB hz1 hk1 hS => ?_)
        obtain ⟨u56_19, u56_20, u56_21, u56_22, u56_23, u56_24⟩ := u
        obtain ⟨hP1, -, hD1⟩ := hB
        rw [ht] at hP1
        obtain ⟨hP, hD⟩ := va_join (wr := [(q_draft, .inr (8, [.int t_draft_items, .int r17, .int t_draft_limit, .int t_draft_mustSet, .int t_draft_neverSet, .int t_draft_hand, .ref q_draft_weight, .ref q_draft_gain, .ref q_draft_joy, .ref q_draft_bars, .ref q_draft_needs]))]) (w1 := [(q, .inr (5, [.ref q_draft, .int u56_19, .int u56_20, .ref q_text, .int t_length, .int u56_21, .int u56_22, .int u56_23, .int u56_24])), (q_text, .inl (C 1, 600, .inl t_text))]) hP hD [1, 2] [0] rfl rfl (by decide) (by decide) hk1 hFc hP1 hD1
        generalize H1 = H at hP hS ⊢
        have hP : va_P D vwCl [(q_draft, .inr (8, [.int t_draft_items, .int r17, .int t_draft_limit, .int t_draft_mustSet, .int t_draft_neverSet, .int t_draft_hand, .ref q_draft_weight, .ref q_draft_gain, .ref q_draft_joy, .ref q_draft_bars, .ref q_draft_needs])), (q, .inr (5, [.ref q_draft, .int u56_19, .int u56_20, .ref q_text, .int t_length, .int u56_21, .int u56_22, .int u56_23, .int u56_24])), (q_text, .inl (C 1, 600, .inl t_text))] H := hP
        have hD : va_D A [(q_draft, .inr (8, [.int t_draft_items, .int r17, .int t_draft_limit, .int t_draft_mustSet, .int t_draft_neverSet, .int t_draft_hand, .ref q_draft_weight, .ref q_draft_gain, .ref q_draft_joy, .ref q_draft_bars, .ref q_draft_needs])), (q, .inr (5, [.ref q_draft, .int u56_19, .int u56_20, .ref q_text, .int t_length, .int u56_21, .int u56_22, .int u56_23, .int u56_24])), (q_text, .inl (C 1, 600, .inl t_text))] := hD
        refine lv_goto (tgt := 63) hx hb dX5_readFrame_59 (by decide) ?_
        refine va_put (D := D) (ci := 8) (v := .int r56) (ty := .int) (C := RX8) (T := TX8) (N := 11) hx hb hts iwX8 tyX8 tyX8_ok nmX8 hown hK hP hD hS 0 rfl rfl 2 (by decide) (hts (.fieldLink RX5 110 "ParetoDesk$Setup" "limit" "I") wd_94) (fun _ h9 => h9) rfl (by decide +kernel) rfl rfl (Nat.le_of_ble_eq_true rfl) dX5_readFrame_63 (fun H locs hP hD hS => ?_)
        have hP : va_P D vwCl [(q_draft, .inr (8, [.int t_draft_items, .int r17, .int r56, .int t_draft_mustSet, .int t_draft_neverSet, .int t_draft_hand, .ref q_draft_weight, .ref q_draft_gain, .ref q_draft_joy, .ref q_draft_bars, .ref q_draft_needs])), (q, .inr (5, [.ref q_draft, .int u56_19, .int u56_20, .ref q_text, .int t_length, .int u56_21, .int u56_22, .int u56_23, .int u56_24])), (q_text, .inl (C 1, 600, .inl t_text))] H := hP
        have hD : va_D A [(q_draft, .inr (8, [.int t_draft_items, .int r17, .int r56, .int t_draft_mustSet, .int t_draft_neverSet, .int t_draft_hand, .ref q_draft_weight, .ref q_draft_gain, .ref q_draft_joy, .ref q_draft_bars, .ref q_draft_needs])), (q, .inr (5, [.ref q_draft, .int u56_19, .int u56_20, .ref q_text, .int t_length, .int u56_21, .int u56_22, .int u56_23, .int u56_24])), (q_text, .inl (C 1, 600, .inl t_text))] := hD
        refine lv_aload_n hx hb dX5_readFrame_66 rfl (lv_at hl 0 rfl) ?_
        refine va_get (D := D) (ci := 5) (v := .ref q_draft) (C := RX5) (T := TX5) (N := 9) hx hb hts iwX5 hown hK hP 1 rfl rfl 0 (by decide) (hts (.fieldLink RX5 12 "ParetoDesk$Parser" "draft" "LParetoDesk$Setup;") wd_147) (fun _ h9 => h9) rfl dX5_readFrame_67 ?_
        refine va_get (D := D) (ci := 8) (v := .int r56) (C := RX8) (T := TX8) (N := 11) hx hb hts iwX8 hown hK hP 0 rfl rfl 2 (by decide) (hts (.fieldLink RX5 110 "ParetoDesk$Setup" "limit" "I") wd_94) (fun _ h9 => h9) rfl dX5_readFrame_70 ?_
        refine lv_iconst (v := (-1)) hx hb dX5_readFrame_73 (by decide) ?_
        refine lv_icmp_eq (tgt := 88) hx hb dX5_readFrame_74 (by decide) (fun c74 => ?_) (fun c74 => ?_)
        · have hwp := hwp.1 c74
          refine lv_iconst (v := 0) hx hb dX5_readFrame_88 (by decide) ?_
          have hP9 := hP.sub (ws' := [(q, .inr (5, [.ref q_draft, .int u56_19, .int u56_20, .ref q_text, .int t_length, .int u56_21, .int u56_22, .int u56_23, .int u56_24])), (q_text, .inl (C 1, 600, .inl t_text)), (q_draft, .inr (8, [.int t_draft_items, .int r17, .int r56, .int t_draft_mustSet, .int t_draft_neverSet, .int t_draft_hand, .ref q_draft_weight, .ref q_draft_gain, .ref q_draft_joy, .ref q_draft_bars, .ref q_draft_needs]))]) [1, 2, 0] rfl
          have hD9 := hD.sub (ws' := [(q, .inr (5, [.ref q_draft, .int u56_19, .int u56_20, .ref q_text, .int t_length, .int u56_21, .int u56_22, .int u56_23, .int u56_24])), (q_text, .inl (C 1, 600, .inl t_text)), (q_draft, .inr (8, [.int t_draft_items, .int r17, .int r56, .int t_draft_mustSet, .int t_draft_neverSet, .int t_draft_hand, .ref q_draft_weight, .ref q_draft_gain, .ref q_draft_joy, .ref q_draft_bars, .ref q_draft_needs]))]) [1, 2, 0] (by decide) rfl
          exact W.zret (v := (0 : Int32)) (ty := .boolean) hx hb hr rfl (fun t ht hW => ⟨⟨(0 : Int32), (u56_19, u56_20, u56_21, u56_22, u56_23, u56_24, r17, r56), rfl, hwp, by rw [ht]; exact hP9, va_K.moved hW.alike hK, hD9⟩, hS.F ht⟩) hS.2.2 dX5_readFrame_89
        · have hwp := hwp.2 c74
          refine lv_aload_n hx hb dX5_readFrame_77 rfl (lv_at hl 0 rfl) ?_
          have hPc := hP.sub (ws' := [(q, .inr (5, [.ref q_draft, .int u56_19, .int u56_20, .ref q_text, .int t_length, .int u56_21, .int u56_22, .int u56_23, .int u56_24])), (q_text, .inl (C 1, 600, .inl t_text))]) [1, 2] rfl
          have hDc := hD.sub (ws' := [(q, .inr (5, [.ref q_draft, .int u56_19, .int u56_20, .ref q_text, .int t_length, .int u56_21, .int u56_22, .int u56_23, .int u56_24])), (q_text, .inl (C 1, 600, .inl t_text))]) [1, 2] (by decide) rfl
          have hFc := va_free (wc := [(q, .inr (5, [.ref q_draft, .int u56_19, .int u56_20, .ref q_text, .int t_length, .int u56_21, .int u56_22, .int u56_23, .int u56_24])), (q_text, .inl (C 1, 600, .inl t_text))]) hD hS hA [1, 2] rfl
          refine va_calli (va_runV (As := []) (rest := []) ⟨hx, hb, hml, hown, hts⟩ (met_X5_passEnd l D C q q_draft q_text u56_19 u56_20 t_length u56_21 u56_22 u56_23 u56_24 t_text H.size _ hwp) (cwV 0 hts gc_X5_112 rfl rfl rfl (by decide +kernel) ⟨Nat.le_of_ble_eq_true rfl, Nat.le_of_ble_eq_true rfl⟩) ⟨fun a U g mk q => by obtain ⟨q0, q1, qP, qK, qD⟩ := q; exact ⟨q0, q1, qP, va_K.moved (u := U) (U := U.calling g mk a) (Vm.Alike.refl U.vm) qK, qD⟩, va_recv hK hPc (ci := 5) (q0 := 0) rfl rfl, fun U hU hW => ⟨rfl, by rw [hU], by rw [hU]; exact hPc, va_K.moved hW.alike hK, hDc.weaken (fun _ _ _ _ => trivial)⟩⟩ rfl rfl hl.1 rfl (lv_room (Nat.le_of_ble_eq_true rfl)) dX5_readFrame_78 ⟨Nat.zero_le _, Nat.zero_le _⟩) hS (fun q _ h => hFc q h) hFc (fun r78 u t H1 locs ht hvm hwp hB hz1 hk1 hS => ?_)
          obtain ⟨u78_25, u78_26, u78_27, u78_28, u78_29, u78_30⟩ := u
          obtain ⟨hP1, -, hD1⟩ := hB
          rw [ht] at hP1
          obtain ⟨hP, hD⟩ := va_join (wr := [(q_draft, .inr (8, [.int t_draft_items, .int r17, .int r56, .int t_draft_mustSet, .int t_draft_neverSet, .int t_draft_hand, .ref q_draft_weight, .ref q_draft_gain, .ref q_draft_joy, .ref q_draft_bars, .ref q_draft_needs]))]) (w1 := [(q, .inr (5, [.ref q_draft, .int u78_25, .int u78_26, .ref q_text, .int t_length, .int u78_27, .int u78_28, .int u78_29, .int u78_30])), (q_text, .inl (C 1, 600, .inl t_text))]) hP hD [1, 2] [0] rfl rfl (by decide) (by decide) hk1 hFc hP1 hD1
          generalize H1 = H at hP hS ⊢
          have hP : va_P D vwCl [(q_draft, .inr (8, [.int t_draft_items, .int r17, .int r56, .int t_draft_mustSet, .int t_draft_neverSet, .int t_draft_hand, .ref q_draft_weight, .ref q_draft_gain, .ref q_draft_joy, .ref q_draft_bars, .ref q_draft_needs])), (q, .inr (5, [.ref q_draft, .int u78_25, .int u78_26, .ref q_text, .int t_length, .int u78_27, .int u78_28, .int u78_29, .int u78_30])), (q_text, .inl (C 1, 600, .inl t_text))] H := hP
          have hD : va_D A [(q_draft, .inr (8, [.int t_draft_items, .int r17, .int r56, .int t_draft_mustSet, .int t_draft_neverSet, .int t_draft_hand, .ref q_draft_weight, .ref q_draft_gain, .ref q_draft_joy, .ref q_draft_bars, .ref q_draft_needs])), (q, .inr (5, [.ref q_draft, .int u78_25, .int u78_26, .ref q_text, .int t_length, .int u78_27, .int u78_28, .int u78_29, .int u78_30])), (q_text, .inl (C 1, 600, .inl t_text))] := hD
          refine lv_if_eq (tgt := 88) hx hb dX5_readFrame_81 (by decide) (fun c81 => ?_) (fun c81 => ?_)
          · have hwp := hwp.1 c81
            refine lv_iconst (v := 0) hx hb dX5_readFrame_88 (by decide) ?_
            have hP9 := hP.sub (ws' := [(q, .inr (5, [.ref q_draft, .int u78_25, .int u78_26, .ref q_text, .int t_length, .int u78_27, .int u78_28, .int u78_29, .int u78_30])), (q_text, .inl (C 1, 600, .inl t_text)), (q_draft, .inr (8, [.int t_draft_items, .int r17, .int r56, .int t_draft_mustSet, .int t_draft_neverSet, .int t_draft_hand, .ref q_draft_weight, .ref q_draft_gain, .ref q_draft_joy, .ref q_draft_bars, .ref q_draft_needs]))]) [1, 2, 0] rfl
            have hD9 := hD.sub (ws' := [(q, .inr (5, [.ref q_draft, .int u78_25, .int u78_26, .ref q_text, .int t_length, .int u78_27, .int u78_28, .int u78_29, .int u78_30])), (q_text, .inl (C 1, 600, .inl t_text)), (q_draft, .inr (8, [.int t_draft_items, .int r17, .int r56, .int t_draft_mustSet, .int t_draft_neverSet, .int t_draft_hand, .ref q_draft_weight, .ref q_draft_gain, .ref q_draft_joy, .ref q_draft_bars, .ref q_draft_needs]))]) [1, 2, 0] (by decide) rfl
            exact W.zret (v := (0 : Int32)) (ty := .boolean) hx hb hr rfl (fun t ht hW => ⟨⟨(0 : Int32), (u78_25, u78_26, u78_27, u78_28, u78_29, u78_30, r17, r56), rfl, hwp, by rw [ht]; exact hP9, va_K.moved hW.alike hK, hD9⟩, hS.F ht⟩) hS.2.2 dX5_readFrame_89
          · have hwp := hwp.2 c81
            refine lv_iconst (v := 1) hx hb dX5_readFrame_84 (by decide) ?_
            refine lv_goto (tgt := 89) hx hb dX5_readFrame_85 (by decide) ?_
            have hP9 := hP.sub (ws' := [(q, .inr (5, [.ref q_draft, .int u78_25, .int u78_26, .ref q_text, .int t_length, .int u78_27, .int u78_28, .int u78_29, .int u78_30])), (q_text, .inl (C 1, 600, .inl t_text)), (q_draft, .inr (8, [.int t_draft_items, .int r17, .int r56, .int t_draft_mustSet, .int t_draft_neverSet, .int t_draft_hand, .ref q_draft_weight, .ref q_draft_gain, .ref q_draft_joy, .ref q_draft_bars, .ref q_draft_needs]))]) [1, 2, 0] rfl
            have hD9 := hD.sub (ws' := [(q, .inr (5, [.ref q_draft, .int u78_25, .int u78_26, .ref q_text, .int t_length, .int u78_27, .int u78_28, .int u78_29, .int u78_30])), (q_text, .inl (C 1, 600, .inl t_text)), (q_draft, .inr (8, [.int t_draft_items, .int r17, .int r56, .int t_draft_mustSet, .int t_draft_neverSet, .int t_draft_hand, .ref q_draft_weight, .ref q_draft_gain, .ref q_draft_joy, .ref q_draft_bars, .ref q_draft_needs]))]) [1, 2, 0] (by decide) rfl
            exact W.zret (v := (1 : Int32)) (ty := .boolean) hx hb hr rfl (fun t ht hW => ⟨⟨(1 : Int32), (u78_25, u78_26, u78_27, u78_28, u78_29, u78_30, r17, r56), rfl, hwp, by rw [ht]; exact hP9, va_K.moved hW.alike hK, hD9⟩, hS.F ht⟩) hS.2.2 dX5_readFrame_89
    · have hwp := hwp.2 c35
      refine lv_iconst (v := 0) hx hb dX5_readFrame_38 (by decide) ?_
      have hP9 := hP.sub (ws' := [(q, .inr (5, [.ref q_draft, .int u17_7, .int u17_8, .ref q_text, .int t_length, .int u17_9, .int u17_10, .int u17_11, .int u17_12])), (q_text, .inl (C 1, 600, .inl t_text)), (q_draft, .inr (8, [.int t_draft_items, .int r17, .int t_draft_limit, .int t_draft_mustSet, .int t_draft_neverSet, .int t_draft_hand, .ref q_draft_weight, .ref q_draft_gain, .ref q_draft_joy, .ref q_draft_bars, .ref q_draft_needs]))]) [1, 2, 0] rfl
      have hD9 := hD.sub (ws' := [(q, .inr (5, [.ref q_draft, .int u17_7, .int u17_8, .ref q_text, .int t_length, .int u17_9, .int u17_10, .int u17_11, .int u17_12])), (q_text, .inl (C 1, 600, .inl t_text)), (q_draft, .inr (8, [.int t_draft_items, .int r17, .int t_draft_limit, .int t_draft_mustSet, .int t_draft_neverSet, .int t_draft_hand, .ref q_draft_weight, .ref q_draft_gain, .ref q_draft_joy, .ref q_draft_bars, .ref q_draft_needs]))]) [1, 2, 0] (by decide) rfl
      exact W.zret (v := (0 : Int32)) (ty := .boolean) hx hb hr rfl (fun t ht hW => ⟨⟨(0 : Int32), (u17_7, u17_8, u17_9, u17_10, u17_11, u17_12, r17, t_draft_limit), rfl, hwp, by rw [ht]; exact hP9, va_K.moved hW.alike hK, hD9⟩, hS.F ht⟩) hS.2.2 dX5_readFrame_39
abbrev ws_X5_readItem : List Cond := .code yX5_readItem cX5_readItem 4 (some .boolean) :: WALL
theorem gc_X5_144 : GoodIn WALL (wsV RX5 144 RX8 yX8_addLast ws_X8_addLast) := gc_v wd_951 wd_952 wd_953 wd_37 wd_954
abbrev rm_X5_readItem : Room := { frames := 6, cells := 0, slots := 0, locals := 128 }
abbrev w_X5_readItem (C : Nat → ClassId) (q : Nat) (q_draft : Nat) (q_text : Nat) (q_draft_weight : Nat) (q_draft_gain : Nat) (q_draft_joy : Nat) (q_draft_bars : Nat) (q_draft_needs : Nat) (t_code : Int32) (t_place : Int32) (t_length : Int32) (t_kind : Int32) (t_start : Int32) (t_next : Int32) (t_value : Int32) (t_draft_items : Int32) (t_draft_capacity : Int32) (t_draft_limit : Int32) (t_draft_mustSet : Int32) (t_draft_neverSet : Int32) (t_draft_hand : Int32) (t_text : Nat → Int32) (t_draft_weight : Nat → Int32) (t_draft_gain : Nat → Int32) (t_draft_joy : Nat → Int32) (t_draft_bars : Nat → Int32) (t_draft_needs : Nat → Int32) : va_W := [(q, .inr (5, [.ref q_draft, .int t_code, .int t_place, .ref q_text, .int t_length, .int t_kind, .int t_start, .int t_next, .int t_value])), (q_draft, .inr (8, [.int t_draft_items, .int t_draft_capacity, .int t_draft_limit, .int t_draft_mustSet, .int t_draft_neverSet, .int t_draft_hand, .ref q_draft_weight, .ref q_draft_gain, .ref q_draft_joy, .ref q_draft_bars, .ref q_draft_needs])), (q_text, .inl (C 1, 600, .inl t_text)), (q_draft_weight, .inl (C 0, 12, .inl t_draft_weight)), (q_draft_gain, .inl (C 0, 12, .inl t_draft_gain)), (q_draft_joy, .inl (C 0, 12, .inl t_draft_joy)), (q_draft_bars, .inl (C 0, 12, .inl t_draft_bars)), (q_draft_needs, .inl (C 0, 12, .inl t_draft_needs))]
abbrev q_X5_readItem (D : va_G) (C : Nat → ClassId) (q : Nat) (q_draft : Nat) (q_text : Nat) (q_draft_weight : Nat) (q_draft_gain : Nat) (q_draft_joy : Nat) (q_draft_bars : Nat) (q_draft_needs : Nat) (t_length : Int32) (t_draft_capacity : Int32) (t_draft_limit : Int32) (t_draft_mustSet : Int32) (t_draft_neverSet : Int32) (t_draft_hand : Int32) (t_text : Nat → Int32) (Q : Int32 → Int32 → Int32 → Int32 → Int32 → Int32 → Int32 → Int32 → (Nat → Int32) → (Nat → Int32) → (Nat → Int32) → (Nat → Int32) → (Nat → Int32) → Prop) (A : Nat → Prop) : Array Value → State → Outcome → State → Prop := va_Qi (fun (r : Int32) (u : Int32 × Int32 × Int32 × Int32 × Int32 × Int32 × Int32 × (Nat → Int32) × (Nat → Int32) × (Nat → Int32) × (Nat → Int32) × (Nat → Int32)) => Q r u.1 u.2.1 u.2.2.1 u.2.2.2.1 u.2.2.2.2.1 u.2.2.2.2.2.1 u.2.2.2.2.2.2.1 u.2.2.2.2.2.2.2.1 u.2.2.2.2.2.2.2.2.1 u.2.2.2.2.2.2.2.2.2.1 u.2.2.2.2.2.2.2.2.2.2.1 u.2.2.2.2.2.2.2.2.2.2.2) (fun (u : Int32 × Int32 × Int32 × Int32 × Int32 × Int32 × Int32 × (Nat → Int32) × (Nat → Int32) × (Nat → Int32) × (Nat → Int32) × (Nat → Int32)) (t : State) => va_P D vwCl (w_X5_readItem C q q_draft q_text q_draft_weight q_draft_gain q_draft_joy q_draft_bars q_draft_needs u.1 u.2.1 t_length u.2.2.1 u.2.2.2.1 u.2.2.2.2.1 u.2.2.2.2.2.1 u.2.2.2.2.2.2.1 t_draft_capacity t_draft_limit t_draft_mustSet t_draft_neverSet t_draft_hand t_text u.2.2.2.2.2.2.2.1 u.2.2.2.2.2.2.2.2.1 u.2.2.2.2.2.2.2.2.2.1 u.2.2.2.2.2.2.2.2.2.2.1 u.2.2.2.2.2.2.2.2.2.2.2) t.heap ∧ va_K D vwCl (tyL C) t ∧ va_D A (w_X5_readItem C q q_draft q_text q_draft_weight q_draft_gain q_draft_joy q_draft_bars q_draft_needs u.1 u.2.1 t_length u.2.2.1 u.2.2.2.1 u.2.2.2.2.1 u.2.2.2.2.2.1 u.2.2.2.2.2.2.1 t_draft_capacity t_draft_limit t_draft_mustSet t_draft_neverSet t_draft_hand t_text u.2.2.2.2.2.2.2.1 u.2.2.2.2.2.2.2.2.1 u.2.2.2.2.2.2.2.2.2.1 u.2.2.2.2.2.2.2.2.2.2.1 u.2.2.2.2.2.2.2.2.2.2.2)) A
set_option maxHeartbeats 4000000 in
set_option maxRecDepth 100000 in
theorem met_X5_readItem (l : Launch) (hst : l.stackTraces = false) (D : va_G) (C : Nat → ClassId) (q : Nat) (q_draft : Nat) (q_text : Nat) (q_draft_weight : Nat) (q_draft_gain : Nat) (q_draft_joy : Nat) (q_draft_bars : Nat) (q_draft_needs : Nat) (t_code : Int32) (t_place : Int32) (t_length : Int32) (t_kind : Int32) (t_start : Int32) (t_next : Int32) (t_value : Int32) (t_draft_items : Int32) (t_draft_capacity : Int32) (t_draft_limit : Int32) (t_draft_mustSet : Int32) (t_draft_neverSet : Int32) (t_draft_hand : Int32) (t_text : Nat → Int32) (t_draft_weight : Nat → Int32) (t_draft_gain : Nat → Int32) (t_draft_joy : Nat → Int32) (t_draft_bars : Nat → Int32) (t_draft_needs : Nat → Int32) (sz : Nat) (Q : Int32 → Int32 → Int32 → Int32 → Int32 → Int32 → Int32 → Int32 → (Nat → Int32) → (Nat → Int32) → (Nat → Int32) → (Nat → Int32) → (Nat → Int32) → Prop) (hwp : wp_X5_readItem t_code t_place t_length t_kind t_start t_next t_value t_draft_items t_text t_draft_weight t_draft_gain t_draft_joy t_draft_bars t_draft_needs Q) : Met l yX5_readItem ws_X5_readItem rm_X5_readItem (va_Pc [.ref q] (fun U => U.heap.size = sz ∧ va_P D vwCl (w_X5_readItem C q q_draft q_text q_draft_weight q_draft_gain q_draft_joy q_draft_bars q_draft_needs t_code t_place t_length t_kind t_start t_next t_value t_draft_items t_draft_capacity t_draft_limit t_draft_mustSet t_draft_neverSet t_draft_hand t_text t_draft_weight t_draft_gain t_draft_joy t_draft_bars t_draft_needs) U.heap ∧ va_K D vwCl (tyL C) U ∧ va_D (fun _ => True) (w_X5_readItem C q q_draft q_text q_draft_weight q_draft_gain q_draft_joy q_draft_bars q_draft_needs t_code t_place t_length t_kind t_start t_next t_value t_draft_items t_draft_capacity t_draft_limit t_draft_mustSet t_draft_neverSet t_draft_hand t_text t_draft_weight t_draft_gain t_draft_joy t_draft_bars t_draft_needs) ∧ TX (va_A (w_X5_readItem C q q_draft q_text q_draft_weight q_draft_gain q_draft_joy q_draft_bars q_draft_needs t_code t_place t_length t_kind t_start t_next t_value t_draft_items t_draft_capacity t_draft_limit t_draft_mustSet t_draft_neverSet t_draft_hand t_text t_draft_weight t_draft_gain t_draft_joy t_draft_bars t_draft_needs) sz) U U.heap)) (q_X5_readItem D C q q_draft q_text q_draft_weight q_draft_gain q_draft_joy q_draft_bars q_draft_needs t_length t_draft_capacity t_draft_limit t_draft_mustSet t_draft_neverSet t_draft_hand t_text Q (va_A (w_X5_readItem C q q_draft q_text q_draft_weight q_draft_gain q_draft_joy q_draft_bars q_draft_needs t_code t_place t_length t_kind t_start t_next t_value t_draft_items t_draft_capacity t_draft_limit t_draft_mustSet t_draft_neverSet t_draft_hand t_text t_draft_weight t_draft_gain t_draft_joy t_draft_bars t_draft_needs) sz)) 0 0 (va_A (w_X5_readItem C q q_draft q_text q_draft_weight q_draft_gain q_draft_joy q_draft_bars q_draft_needs t_code t_place t_length t_kind t_start t_next t_value t_draft_items t_draft_capacity t_draft_limit t_draft_mustSet t_draft_neverSet t_draft_hand t_text t_draft_weight t_draft_gain t_draft_joy t_draft_bars t_draft_needs) sz) := by
  refine Met.ofW (cc := cX5_readItem) (maxL := 4) (ret := (some .boolean)) (by decide) rfl ?_
  intro p e s m args below meth c s₁ B hml hv
  obtain ⟨rfl, hsz, hP, hK, hD0, hT⟩ := hv
  have hx := B.exec
  have hb := B.bytes
  have hr := B.returns
  have hts : ∀ w ∈ WALL, w.before _ s = true := fun w h => atoms_spec (ws := ws_X5_readItem) B.pre w (List.mem_cons_of_mem _ h)
  have hown : s.vm.findClass RX5 = some m.cls := findClass_of_methodNamed B.named
  have hlocks := B.notSynchronized
  subst hsz
  have hD := hD0.self (sz := s.heap.size)
  generalize hAe : va_A (w_X5_readItem C q q_draft q_text q_draft_weight q_draft_gain q_draft_joy q_draft_bars q_draft_needs t_code t_place t_length t_kind t_start t_next t_value t_draft_items t_draft_capacity t_draft_limit t_draft_mustSet t_draft_neverSet t_draft_hand t_text t_draft_weight t_draft_gain t_draft_joy t_draft_bars t_draft_needs) s.heap.size = A at hD ⊢ hT
  have hA : ∀ q : Nat, s.heap.size ≤ q → A q := fun q h => by rw [← hAe]; exact Or.inr h
  have hS : va_S A s.heap s.heap [] := va_S.rf
  have hl := lv_entry ([.ref q]) (n := 4) (Nat.le_of_ble_eq_true rfl)
  rw [lg_entry_eq]
  generalize (lg_sl ([.ref q]) ++ List.replicate (4 - (lg_sl ([.ref q])).length) Slot.unset).toArray = ls at hl ⊢
  have hl : lv_has ls 4 [(0, .ref q)] := hl
  unfold wp_X5_readItem at hwp
  obtain ⟨H, hH⟩ : ∃ H, H = s.heap := ⟨_, rfl⟩
  obtain ⟨locs, hlo⟩ : ∃ z : List Loc, z = [] := ⟨_, rfl⟩
  have hP : va_P D vwCl [(q, .inr (5, [.ref q_draft, .int t_code, .int t_place, .ref q_text, .int t_length, .int t_kind, .int t_start, .int t_next, .int t_value])), (q_draft, .inr (8, [.int t_draft_items, .int t_draft_capacity, .int t_draft_limit, .int t_draft_mustSet, .int t_draft_neverSet, .int t_draft_hand, .ref q_draft_weight, .ref q_draft_gain, .ref q_draft_joy, .ref q_draft_bars, .ref q_draft_needs])), (q_text, .inl (C 1, 600, .inl t_text)), (q_draft_weight, .inl (C 0, 12, .inl t_draft_weight)), (q_draft_gain, .inl (C 0, 12, .inl t_draft_gain)), (q_draft_joy, .inl (C 0, 12, .inl t_draft_joy)), (q_draft_bars, .inl (C 0, 12, .inl t_draft_bars)), (q_draft_needs, .inl (C 0, 12, .inl t_draft_needs))] H := by rw [hH]; exact hP
  have hD : va_D A [(q, .inr (5, [.ref q_draft, .int t_code, .int t_place, .ref q_text, .int t_length, .int t_kind, .int t_start, .int t_next, .int t_value])), (q_draft, .inr (8, [.int t_draft_items, .int t_draft_capacity, .int t_draft_limit, .int t_draft_mustSet, .int t_draft_neverSet, .int t_draft_hand, .ref q_draft_weight, .ref q_draft_gain, .ref q_draft_joy, .ref q_draft_bars, .ref q_draft_needs])), (q_text, .inl (C 1, 600, .inl t_text)), (q_draft_weight, .inl (C 0, 12, .inl t_draft_weight)), (q_draft_gain, .inl (C 0, 12, .inl t_draft_gain)), (q_draft_joy, .inl (C 0, 12, .inl t_draft_joy)), (q_draft_bars, .inl (C 0, 12, .inl t_draft_bars)), (q_draft_needs, .inl (C 0, 12, .inl t_draft_needs))] := hD
  have hS : va_S A s.heap H locs := by rw [hH, hlo]; exact hS
  suffices K : W p l e (headSpec ws_X5_readItem rm_X5_readItem).room s m ([.ref q] : List Value).toArray below meth c H locs 0 0 (MQ below (q_X5_readItem D C q q_draft q_text q_draft_weight q_draft_gain q_draft_joy q_draft_bars q_draft_needs t_length t_draft_capacity t_draft_limit t_draft_mustSet t_draft_neverSet t_draft_hand t_text Q A) ([.ref q] : List Value).toArray s 0 0 A) (F0 m 0 ls []) from by rw [hH, hlo] at K; exact K
  refine lv_aload_n hx hb dX5_readItem_0 rfl (lv_at hl 0 rfl) ?_
  refine va_get (D := D) (ci := 5) (v := .ref q_draft) (C := RX5) (T := TX5) (N := 9) hx hb hts iwX5 hown hK hP 0 rfl rfl 0 (by decide) (hts (.fieldLink RX5 12 "ParetoDesk$Parser" "draft" "LParetoDesk$Setup;") wd_147) (fun _ h9 => h9) rfl dX5_readItem_1 ?_
  refine va_get (D := D) (ci := 8) (v := .int t_draft_items) (C := RX8) (T := TX8) (N := 11) hx hb hts iwX8 hown hK hP 1 rfl rfl 0 (by decide) (hts (.fieldLink RX5 135 "ParetoDesk$Setup" "items" "I") wd_87) (fun _ h9 => h9) rfl dX5_readItem_4 ?_
  refine lv_bipush (v := 12) hx hb dX5_readItem_7 (by decide) ?_
  refine lv_icmp_lt (tgt := 18) hx hb dX5_readItem_9 (by decide) (fun c9 => ?_) (fun c9 => ?_)
  · have hwp := hwp.1 c9
    refine lv_aload_n hx hb dX5_readItem_18 rfl (lv_at hl 0 rfl) ?_
    have hPc := hP.sub (ws' := [(q, .inr (5, [.ref q_draft, .int t_code, .int t_place, .ref q_text, .int t_length, .int t_kind, .int t_start, .int t_next, .int t_value])), (q_text, .inl (C 1, 600, .inl t_text))]) [0, 2] rfl
    have hDc := hD.sub (ws' := [(q, .inr (5, [.ref q_draft, .int t_code, .int t_place, .ref q_text, .int t_length, .int t_kind, .int t_start, .int t_next, .int t_value])), (q_text, .inl (C 1, 600, .inl t_text))]) [0, 2] (by decide) rfl
    have hFc := va_free (wc := [(q, .inr (5, [.ref q_draft, .int t_code, .int t_place, .ref q_text, .int t_length, .int t_kind, .int t_start, .int t_next, .int t_value])), (q_text, .inl (C 1, 600, .inl t_text))]) hD hS hA [0, 2] rfl
    refine va_callv (va_runV (As := []) (rest := []) ⟨hx, hb, hml, hown, hts⟩ (met_X5_advance l D C q q_draft q_text t_code t_place t_length t_kind t_start t_next t_value t_text H.size _ hwp) (cwV 0 hts gc_X5_44 rfl rfl rfl (by decide +kernel) ⟨Nat.le_of_ble_eq_true rfl, Nat.le_of_ble_eq_true rfl⟩) ⟨fun a U g mk q => by obtain ⟨q0, q1, qP, qK, qD⟩ := q; exact ⟨q0, q1, qP, va_K.moved (u := U) (U := U.calling g mk a) (Vm.Alike.refl U.vm) qK, qD⟩, va_recv hK hPc (ci := 5) (q0 := 0) rfl rfl, fun U hU hW => ⟨rfl, by rw [hU], by rw [hU]; exact hPc, va_K.moved hW.alike hK, hDc.weaken (fun _ _ _ _ => trivial)⟩⟩ rfl rfl hl.1 rfl (lv_room (Nat.le_of_ble_eq_true rfl)) dX5_readItem_19 ⟨Nat.zero_le _, Nat.zero_le _⟩) hS (fun q _ h => hFc q h) hFc (fun u t H1 locs ht hvm hwp hB hz1 hk1 hS => ?_)
    obtain ⟨u19_1, u19_2, u19_3, u19_4⟩ := u
    obtain ⟨hP1, -, hD1⟩ := hB
    rw [ht] at hP1
    obtain ⟨hP, hD⟩ := va_join (wr := [(q_draft, .inr (8, [.int t_draft_items, .int t_draft_capacity, .int t_draft_limit, .int t_draft_mustSet, .int t_draft_neverSet, .int t_draft_hand, .ref q_draft_weight, .ref q_draft_gain, .ref q_draft_joy, .ref q_draft_bars, .ref q_draft_needs])), (q_draft_weight, .inl (C 0, 12, .inl t_draft_weight)), (q_draft_gain, .inl (C 0, 12, .inl t_draft_gain)), (q_draft_joy, .inl (C 0, 12, .inl t_draft_joy)), (q_draft_bars, .inl (C 0, 12, .inl t_draft_bars)), (q_draft_needs, .inl (C 0, 12, .inl t_draft_needs))]) (w1 := [(q, .inr (5, [.ref q_draft, .int t_code, .int t_place, .ref q_text, .int t_length, .int u19_1, .int u19_2, .int u19_3, .int u19_4])), (q_text, .inl (C 1, 600, .inl t_text))]) hP hD [0, 2] [1, 3, 4, 5, 6, 7] rfl rfl (by decide) (by decide) hk1 hFc hP1 hD1
    generalize H1 = H at hP hS ⊢
    have hP : va_P D vwCl [(q_draft, .inr (8, [.int t_draft_items, .int t_draft_capacity, .int t_draft_limit, .int t_draft_mustSet, .int t_draft_neverSet, .int t_draft_hand, .ref q_draft_weight, .ref q_draft_gain, .ref q_draft_joy, .ref q_draft_bars, .ref q_draft_needs])), (q_draft_weight, .inl (C 0, 12, .inl t_draft_weight)), (q_draft_gain, .inl (C 0, 12, .inl t_draft_gain)), (q_draft_joy, .inl (C 0, 12, .inl t_draft_joy)), (q_draft_bars, .inl (C 0, 12, .inl t_draft_bars)), (q_draft_needs, .inl (C 0, 12, .inl t_draft_needs)), (q, .inr (5, [.ref q_draft, .int t_code, .int t_place, .ref q_text, .int t_length, .int u19_1, .int u19_2, .int u19_3, .int u19_4])), (q_text, .inl (C 1, 600, .inl t_text))] H := hP
    have hD : va_D A [(q_draft, .inr (8, [.int t_draft_items, .int t_draft_capacity, .int t_draft_limit, .int t_draft_mustSet, .int t_draft_neverSet, .int t_draft_hand, .ref q_draft_weight, .ref q_draft_gain, .ref q_draft_joy, .ref q_draft_bars, .ref q_draft_needs])), (q_draft_weight, .inl (C 0, 12, .inl t_draft_weight)), (q_draft_gain, .inl (C 0, 12, .inl t_draft_gain)), (q_draft_joy, .inl (C 0, 12, .inl t_draft_joy)), (q_draft_bars, .inl (C 0, 12, .inl t_draft_bars)), (q_draft_needs, .inl (C 0, 12, .inl t_draft_needs)), (q, .inr (5, [.ref q_draft, .int t_code, .int t_place, .ref q_text, .int t_length, .int u19_1, .int u19_2, .int u19_3, .int u19_4])), (q_text, .inl (C 1, 600, .inl t_text))] := hD
    refine lv_aload_n hx hb dX5_readItem_22 rfl (lv_at hl 0 rfl) ?_
    obtain ⟨sa23, hr_sa23, hs_sa23⟩ := hT.2.2.2.2.2.1 ("ParetoDesk$Parser", 138, "weight", [119, 101, 105, 103, 104, 116]) (by decide)
    refine va_ldcS (own := RX5) (tx := "weight") hx hb hown hr_sa23 dX5_readItem_23 ?_
    have hPc := hP.sub (ws' := [(q, .inr (5, [.ref q_draft, .int t_code, .int t_place, .ref q_text, .int t_length, .int u19_1, .int u19_2, .int u19_3, .int u19_4])), (q_text, .inl (C 1, 600, .inl t_text))]) [6, 7] rfl
    have hDc := hD.sub (ws' := [(q, .inr (5, [.ref q_draft, .int t_code, .int t_place, .ref q_text, .int t_length, .int u19_1, .int u19_2, .int u19_3, .int u19_4])), (q_text, .inl (C 1, 600, .inl t_text))]) [6, 7] (by decide) rfl
    have hFc := va_free (wc := [(q, .inr (5, [.ref q_draft, .int t_code, .int t_place, .ref q_text, .int t_length, .int u19_1, .int u19_2, .int u19_3, .int u19_4])), (q_text, .inl (C 1, 600, .inl t_text))]) hD hS hA [6, 7] rfl
    refine va_calli (va_runV (As := [.ref sa23]) (rest := []) ⟨hx, hb, hml, hown, hts⟩ (met_X5_passWord l hst D C q q_draft q_text sa23 ([119, 101, 105, 103, 104, 116]) t_code t_place t_length u19_1 u19_2 u19_3 u19_4 t_text H.size _ hwp) (cwV 1 hts gc_X5_99 rfl rfl rfl (by decide +kernel) ⟨Nat.le_of_ble_eq_true rfl, Nat.le_of_ble_eq_true rfl⟩) ⟨fun a U g mk q => by obtain ⟨q0, q1, qP, qK, qD, qT, qS_q1⟩ := q; exact ⟨q0, q1, qP, va_K.moved (u := U) (U := U.calling g mk a) (Vm.Alike.refl U.vm) qK, qD, qT.mv (U := U.calling g mk a) (State.WarmedH.refl U), qS_q1.moved (U := U.calling g mk a) (Vm.Alike.refl U.vm)⟩, va_recv hK hPc (ci := 5) (q0 := 0) rfl rfl, fun U hU hW => ⟨rfl, by rw [hU], by rw [hU]; exact hPc, va_K.moved hW.alike hK, hDc.weaken (fun _ _ _ _ => trivial), hT.call hS hFc hU hW, hs_sa23.call hS hFc hU hW⟩⟩ rfl rfl hl.1 rfl (lv_room (Nat.le_of_ble_eq_true rfl)) dX5_readItem_25 ⟨Nat.zero_le _, Nat.zero_le _⟩) hS (fun q _ h => hFc q h) hFc (fun r25 u t H1 locs ht hvm hwp hB hz1 hk1 hS => ?_)
    obtain ⟨u25_5, u25_6, u25_7, u25_8, u25_9, u25_10⟩ := u
    obtain ⟨hP1, -, hD1⟩ := hB
    rw [ht] at hP1
    obtain ⟨hP, hD⟩ := va_join (wr := [(q_draft, .inr (8, [.int t_draft_items, .int t_draft_capacity, .int t_draft_limit, .int t_draft_mustSet, .int t_draft_neverSet, .int t_draft_hand, .ref q_draft_weight, .ref q_draft_gain, .ref q_draft_joy, .ref q_draft_bars, .ref q_draft_needs])), (q_draft_weight, .inl (C 0, 12, .inl t_draft_weight)), (q_draft_gain, .inl (C 0, 12, .inl t_draft_gain)), (q_draft_joy, .inl (C 0, 12, .inl t_draft_joy)), (q_draft_bars, .inl (C 0, 12, .inl t_draft_bars)), (q_draft_needs, .inl (C 0, 12, .inl t_draft_needs))]) (w1 := [(q, .inr (5, [.ref q_draft, .int u25_5, .int u25_6, .ref q_text, .int t_length, .int u25_7, .int u25_8, .int u25_9, .int u25_10])), (q_text, .inl (C 1, 600, .inl t_text))]) hP hD [6, 7] [0, 1, 2, 3, 4, 5] rfl rfl (by decide) (by decide) hk1 hFc hP1 hD1
    generalize H1 = H at hP hS ⊢
    have hP : va_P D vwCl [(q_draft, .inr (8, [.int t_draft_items, .int t_draft_capacity, .int t_draft_limit, .int t_draft_mustSet, .int t_draft_neverSet, .int t_draft_hand, .ref q_draft_weight, .ref q_draft_gain, .ref q_draft_joy, .ref q_draft_bars, .ref q_draft_needs])), (q_draft_weight, .inl (C 0, 12, .inl t_draft_weight)), (q_draft_gain, .inl (C 0, 12, .inl t_draft_gain)), (q_draft_joy, .inl (C 0, 12, .inl t_draft_joy)), (q_draft_bars, .inl (C 0, 12, .inl t_draft_bars)), (q_draft_needs, .inl (C 0, 12, .inl t_draft_needs)), (q, .inr (5, [.ref q_draft, .int u25_5, .int u25_6, .ref q_text, .int t_length, .int u25_7, .int u25_8, .int u25_9, .int u25_10])), (q_text, .inl (C 1, 600, .inl t_text))] H := hP
    have hD : va_D A [(q_draft, .inr (8, [.int t_draft_items, .int t_draft_capacity, .int t_draft_limit, .int t_draft_mustSet, .int t_draft_neverSet, .int t_draft_hand, .ref q_draft_weight, .ref q_draft_gain, .ref q_draft_joy, .ref q_draft_bars, .ref q_draft_needs])), (q_draft_weight, .inl (C 0, 12, .inl t_draft_weight)), (q_draft_gain, .inl (C 0, 12, .inl t_draft_gain)), (q_draft_joy, .inl (C 0, 12, .inl t_draft_joy)), (q_draft_bars, .inl (C 0, 12, .inl t_draft_bars)), (q_draft_needs, .inl (C 0, 12, .inl t_draft_needs)), (q, .inr (5, [.ref q_draft, .int u25_5, .int u25_6, .ref q_text, .int t_length, .int u25_7, .int u25_8, .int u25_9, .int u25_10])), (q_text, .inl (C 1, 600, .inl t_text))] := hD
    refine lv_if_eq (tgt := 40) hx hb dX5_readItem_28 (by decide) (fun c28 => ?_) (fun c28 => ?_)
    · have hwp := hwp.1 c28
      refine lv_iconst (v := (-1)) hx hb dX5_readItem_40 (by decide) ?_
      refine lv_istore_n (lv' := [(1, .int (-1 : Int32)), (0, .ref q)]) hx hb dX5_readItem_41 rfl hl (by decide) rfl (fun ls hl => ?_)
      refine lv_iload_n hx hb dX5_readItem_42 rfl (lv_at hl 0 rfl) ?_
      refine lv_iconst (v := (-1)) hx hb dX5_readItem_43 (by decide) ?_
      refine lv_icmp_ne (tgt := 49) hx hb dX5_readItem_44 (by decide) (fun c44 => ?_) (fun c44 => ?_)
      · exact absurd c44 (by decide)
      · refine lv_iconst (v := 0) hx hb dX5_readItem_47 (by decide) ?_
        have hP9 := hP.sub (ws' := [(q, .inr (5, [.ref q_draft, .int u25_5, .int u25_6, .ref q_text, .int t_length, .int u25_7, .int u25_8, .int u25_9, .int u25_10])), (q_draft, .inr (8, [.int t_draft_items, .int t_draft_capacity, .int t_draft_limit, .int t_draft_mustSet, .int t_draft_neverSet, .int t_draft_hand, .ref q_draft_weight, .ref q_draft_gain, .ref q_draft_joy, .ref q_draft_bars, .ref q_draft_needs])), (q_text, .inl (C 1, 600, .inl t_text)), (q_draft_weight, .inl (C 0, 12, .inl t_draft_weight)), (q_draft_gain, .inl (C 0, 12, .inl t_draft_gain)), (q_draft_joy, .inl (C 0, 12, .inl t_draft_joy)), (q_draft_bars, .inl (C 0, 12, .inl t_draft_bars)), (q_draft_needs, .inl (C 0, 12, .inl t_draft_needs))]) [6, 0, 7, 1, 2, 3, 4, 5] rfl
        have hD9 := hD.sub (ws' := [(q, .inr (5, [.ref q_draft, .int u25_5, .int u25_6, .ref q_text, .int t_length, .int u25_7, .int u25_8, .int u25_9, .int u25_10])), (q_draft, .inr (8, [.int t_draft_items, .int t_draft_capacity, .int t_draft_limit, .int t_draft_mustSet, .int t_draft_neverSet, .int t_draft_hand, .ref q_draft_weight, .ref q_draft_gain, .ref q_draft_joy, .ref q_draft_bars, .ref q_draft_needs])), (q_text, .inl (C 1, 600, .inl t_text)), (q_draft_weight, .inl (C 0, 12, .inl t_draft_weight)), (q_draft_gain, .inl (C 0, 12, .inl t_draft_gain)), (q_draft_joy, .inl (C 0, 12, .inl t_draft_joy)), (q_draft_bars, .inl (C 0, 12, .inl t_draft_bars)), (q_draft_needs, .inl (C 0, 12, .inl t_draft_needs))]) [6, 0, 7, 1, 2, 3, 4, 5] (by decide) rfl
        exact W.zret (v := (0 : Int32)) (ty := .boolean) hx hb hr rfl (fun t ht hW => ⟨⟨(0 : Int32), (u25_5, u25_6, u25_7, u25_8, u25_9, u25_10, t_draft_items, t_draft_weight, t_draft_gain, t_draft_joy, t_draft_bars, t_draft_needs), rfl, hwp, by rw [ht]; exact hP9, va_K.moved hW.alike hK, hD9⟩, hS.F ht⟩) hS.2.2 dX5_readItem_48
    · have hwp := hwp.2 c28
      refine lv_aload_n hx hb dX5_readItem_31 rfl (lv_at hl 0 rfl) ?_
      refine lv_bipush (v := 99) hx hb dX5_readItem_32 (by decide) ?_
      have hPc := hP.sub (ws' := [(q, .inr (5, [.ref q_draft, .int u25_5, .int u25_6, .ref q_text, .int t_length, .int u25_7, .int u25_8, .int u25_9, .int u25_10])), (q_text, .inl (C 1, 600, .inl t_text))]) [6, 7] rfl
      have hDc := hD.sub (ws' := [(q, .inr (5, [.ref q_draft, .int u25_5, .int u25_6, .ref q_text, .int t_length, .int u25_7, .int u25_8, .int u25_9, .int u25_10])), (q_text, .inl (C 1, 600, .inl t_text))]) [6, 7] (by decide) rfl
      have hFc := va_free (wc := [(q, .inr (5, [.ref q_draft, .int u25_5, .int u25_6, .ref q_text, .int t_length, .int u25_7, .int u25_8, .int u25_9, .int u25_10])), (q_text, .inl (C 1, 600, .inl t_text))]) hD hS hA [6, 7] rfl
      refine va_calli (va_runV (As := [.int (99 : Int32)]) (rest := []) ⟨hx, hb, hml, hown, hts⟩ (met_X5_passNumber l D C q q_draft q_text (99 : Int32) u25_5 u25_6 t_length u25_7 u25_8 u25_9 u25_10 t_text H.size _ hwp) (cwV 1 hts gc_X5_102 rfl rfl rfl (by decide +kernel) ⟨Nat.le_of_ble_eq_true rfl, Nat.le_of_ble_eq_true rfl⟩) ⟨fun a U g mk q => by obtain ⟨q0, q1, qP, qK, qD⟩ := q; exact ⟨q0, q1, qP, va_K.moved (u := U) (U := U.calling g mk a) (Vm.Alike.refl U.vm) qK, qD⟩, va_recv hK hPc (ci := 5) (q0 := 0) rfl rfl, fun U hU hW => ⟨rfl, by rw [hU], by rw [hU]; exact hPc, va_K.moved hW.alike hK, hDc.weaken (fun _ _ _ _ => trivial)⟩⟩ rfl rfl hl.1 rfl (lv_room (Nat.le_of_ble_eq_true rfl)) dX5_readItem_34 ⟨Nat.zero_le _, Nat.zero_le _⟩) hS (fun q _ h => hFc q h) hFc (fun r34 u t H1 locs ht hvm hwp hB hz1 hk1 hS => ?_)
      obtain ⟨u34_11, u34_12, u34_13, u34_14, u34_15, u34_16⟩ := u
      obtain ⟨hP1, -, hD1⟩ := hB
      rw [ht] at hP1
      obtain ⟨hP, hD⟩ := va_join (wr := [(q_draft, .inr (8, [.int t_draft_items, .int t_draft_capacity, .int t_draft_limit, .int t_draft_mustSet, .int t_draft_neverSet, .int t_draft_hand, .ref q_draft_weight, .ref q_draft_gain, .ref q_draft_joy, .ref q_draft_bars, .ref q_draft_needs])), (q_draft_weight, .inl (C 0, 12, .inl t_draft_weight)), (q_draft_gain, .inl (C 0, 12, .inl t_draft_gain)), (q_draft_joy, .inl (C 0, 12, .inl t_draft_joy)), (q_draft_bars, .inl (C 0, 12, .inl t_draft_bars)), (q_draft_needs, .inl (C 0, 12, .inl t_draft_needs))]) (w1 := [(q, .inr (5, [.ref q_draft, .int u34_11, .int u34_12, .ref q_text, .int t_length, .int u34_13, .int u34_14, .int u34_15, .int u34_16])), (q_text, .inl (C 1, 600, .inl t_text))]) hP hD [6, 7] [0, 1, 2, 3, 4, 5] rfl rfl (by decide) (by decide) hk1 hFc hP1 hD1
      generalize H1 = H at hP hS ⊢
      have hP : va_P D vwCl [(q_draft, .inr (8, [.int t_draft_items, .int t_draft_capacity, .int t_draft_limit, .int t_draft_mustSet, .int t_draft_neverSet, .int t_draft_hand, .ref q_draft_weight, .ref q_draft_gain, .ref q_draft_joy, .ref q_draft_bars, .ref q_draft_needs])), (q_draft_weight, .inl (C 0, 12, .inl t_draft_weight)), (q_draft_gain, .inl (C 0, 12, .inl t_draft_gain)), (q_draft_joy, .inl (C 0, 12, .inl t_draft_joy)), (q_draft_bars, .inl (C 0, 12, .inl t_draft_bars)), (q_draft_needs, .inl (C 0, 12, .inl t_draft_needs)), (q, .inr (5, [.ref q_draft, .int u34_11, .int u34_12, .ref q_text, .int t_length, .int u34_13, .int u34_14, .int u34_15, .int u34_16])), (q_text, .inl (C 1, 600, .inl t_text))] H := hP
      have hD : va_D A [(q_draft, .inr (8, [.int t_draft_items, .int t_draft_capacity, .int t_draft_limit, .int t_draft_mustSet, .int t_draft_neverSet, .int t_draft_hand, .ref q_draft_weight, .ref q_draft_gain, .ref q_draft_joy, .ref q_draft_bars, .ref q_draft_needs])), (q_draft_weight, .inl (C 0, 12, .inl t_draft_weight)), (q_draft_gain, .inl (C 0, 12, .inl t_draft_gain)), (q_draft_joy, .inl (C 0, 12, .inl t_draft_joy)), (q_draft_bars, .inl (C 0, 12, .inl t_draft_bars)), (q_draft_needs, .inl (C 0, 12, .inl t_draft_needs)), (q, .inr (5, [.ref q_draft, .int u34_11, .int u34_12, .ref q_text, .int t_length, .int u34_13, .int u34_14, .int u34_15, .int u34_16])), (q_text, .inl (C 1, 600, .inl t_text))] := hD
      refine lv_goto (tgt := 41) hx hb dX5_readItem_37 (by decide) ?_
      refine lv_istore_n (lv' := [(1, .int r34), (0, .ref q)]) hx hb dX5_readItem_41 rfl hl (by decide) rfl (fun ls hl => ?_)
      refine lv_iload_n hx hb dX5_readItem_42 rfl (lv_at hl 0 rfl) ?_
      refine lv_iconst (v := (-1)) hx hb dX5_readItem_43 (by decide) ?_
      refine lv_icmp_ne (tgt := 49) hx hb dX5_readItem_44 (by decide) (fun c44 => ?_) (fun c44 => ?_)
      · have hwp := hwp.1 c44
        refine lv_aload_n hx hb dX5_readItem_49 rfl (lv_at hl 1 rfl) ?_
        obtain ⟨sa50, hr_sa50, hs_sa50⟩ := hT.2.2.2.2.2.1 ("ParetoDesk$Parser", 140, "gain", [103, 97, 105, 110]) (by decide)
        refine va_ldcS (own := RX5) (tx := "gain") hx hb hown hr_sa50 dX5_readItem_50 ?_
        have hPc := hP.sub (ws' := [(q, .inr (5, [.ref q_draft, .int u34_11, .int u34_12, .ref q_text, .int t_length, .int u34_13, .int u34_14, .int u34_15, .int u34_16])), (q_text, .inl (C 1, 600, .inl t_text))]) [6, 7] rfl
        have hDc := hD.sub (ws' := [(q, .inr (5, [.ref q_draft, .int u34_11, .int u34_12, .ref q_text, .int t_length, .int u34_13, .int u34_14, .int u34_15, .int u34_16])), (q_text, .inl (C 1, 600, .inl t_text))]) [6, 7] (by decide) rfl
        have hFc := va_free (wc := [(q, .inr (5, [.ref q_draft, .int u34_11, .int u34_12, .ref q_text, .int t_length, .int u34_13, .int u34_14, .int u34_15, .int u34_16])), (q_text, .inl (C 1, 600, .inl t_text))]) hD hS hA [6, 7] rfl
        refine va_calli (va_runV (As := [.ref sa50]) (rest := []) ⟨hx, hb, hml, hown, hts⟩ (met_X5_passWord l hst D C q q_draft q_text sa50 ([103, 97, 105, 110]) u34_11 u34_12 t_length u34_13 u34_14 u34_15 u34_16 t_text H.size _ hwp) (cwV 1 hts gc_X5_99 rfl rfl rfl (by decide +kernel) ⟨Nat.le_of_ble_eq_true rfl, Nat.le_of_ble_eq_true rfl⟩) ⟨fun a U g mk q => by obtain ⟨q0, q1, qP, qK, qD, qT, qS_q1⟩ := q; exact ⟨q0, q1, qP, va_K.moved (u := U) (U := U.calling g mk a) (Vm.Alike.refl U.vm) qK, qD, qT.mv (U := U.calling g mk a) (State.WarmedH.refl U), qS_q1.moved (U := U.calling g mk a) (Vm.Alike.refl U.vm)⟩, va_recv hK hPc (ci := 5) (q0 := 0) rfl rfl, fun U hU hW => ⟨rfl, by rw [hU], by rw [hU]; exact hPc, va_K.moved hW.alike hK, hDc.weaken (fun _ _ _ _ => trivial), hT.call hS hFc hU hW, hs_sa50.call hS hFc hU hW⟩⟩ rfl rfl hl.1 rfl (lv_room (Nat.le_of_ble_eq_true rfl)) dX5_readItem_52 ⟨Nat.zero_le _, Nat.zero_le _⟩) hS (fun q _ h => hFc q h) hFc (fun r52 u t H1 locs ht hvm hwp hB hz1 hk1 hS => ?_)
        obtain ⟨u52_17, u52_18, u52_19, u52_20, u52_21, u52_22⟩ := u
        obtain ⟨hP1, -, hD1⟩ := hB
        rw [ht] at hP1
        obtain ⟨hP, hD⟩ := va_join (wr := [(q_draft, .inr (8, [.int t_draft_items, .int t_draft_capacity, .int t_draft_limit, .int t_draft_mustSet, .int t_draft_neverSet, .int t_draft_hand, .ref q_draft_weight, .ref q_draft_gain, .ref q_draft_joy, .ref q_draft_bars, .ref q_draft_needs])), (q_draft_weight, .inl (C 0, 12, .inl t_draft_weight)), (q_draft_gain, .inl (C 0, 12, .inl t_draft_gain)), (q_draft_joy, .inl (C 0, 12, .inl t_draft_joy)), (q_draft_bars, .inl (C 0, 12, .inl t_draft_bars)), (q_draft_needs, .inl (C 0, 12, .inl t_draft_needs))]) (w1 := [(q, .inr (5, [.ref q_draft, .int u52_17, .int u52_18, .ref q_text, .int t_length, .int u52_19, .int u52_20, .int u52_21, .int u52_22])), (q_text, .inl (C 1, 600, .inl t_text))]) hP hD [6, 7] [0, 1, 2, 3, 4, 5] rfl rfl (by decide) (by decide) hk1 hFc hP1 hD1
        generalize H1 = H at hP hS ⊢
        have hP : va_P D vwCl [(q_draft, .inr (8, [.int t_draft_items, .int t_draft_capacity, .int t_draft_limit, .int t_draft_mustSet, .int t_draft_neverSet, .int t_draft_hand, .ref q_draft_weight, .ref q_draft_gain, .ref q_draft_joy, .ref q_draft_bars, .ref q_draft_needs])), (q_draft_weight, .inl (C 0, 12, .inl t_draft_weight)), (q_draft_gain, .inl (C 0, 12, .inl t_draft_gain)), (q_draft_joy, .inl (C 0, 12, .inl t_draft_joy)), (q_draft_bars, .inl (C 0, 12, .inl t_draft_bars)), (q_draft_needs, .inl (C 0, 12, .inl t_draft_needs)), (q, .inr (5, [.ref q_draft, .int u52_17, .int u52_18, .ref q_text, .int t_length, .int u52_19, .int u52_20, .int u52_21, .int u52_22])), (q_text, .inl (C 1, 600, .inl t_text))] H := hP
        have hD : va_D A [(q_draft, .inr (8, [.int t_draft_items, .int t_draft_capacity, .int t_draft_limit, .int t_draft_mustSet, .int t_draft_neverSet, .int t_draft_hand, .ref q_draft_weight, .ref q_draft_gain, .ref q_draft_joy, .ref q_draft_bars, .ref q_draft_needs])), (q_draft_weight, .inl (C 0, 12, .inl t_draft_weight)), (q_draft_gain, .inl (C 0, 12, .inl t_draft_gain)), (q_draft_joy, .inl (C 0, 12, .inl t_draft_joy)), (q_draft_bars, .inl (C 0, 12, .inl t_draft_bars)), (q_draft_needs, .inl (C 0, 12, .inl t_draft_needs)), (q, .inr (5, [.ref q_draft, .int u52_17, .int u52_18, .ref q_text, .int t_length, .int u52_19, .int u52_20, .int u52_21, .int u52_22])), (q_text, .inl (C 1, 600, .inl t_text))] := hD
        refine lv_if_eq (tgt := 67) hx hb dX5_readItem_55 (by decide) (fun c55 => ?_) (fun c55 => ?_)
        · have hwp := hwp.1 c55
          refine lv_iconst (v := (-1)) hx hb dX5_readItem_67 (by decide) ?_
          refine lv_istore_n (lv' := [(2, .int (-1 : Int32)), (1, .int r34), (0, .ref q)]) hx hb dX5_readItem_68 rfl hl (by decide) rfl (fun ls hl => ?_)
          refine lv_iload_n hx hb dX5_readItem_69 rfl (lv_at hl 0 rfl) ?_
          refine lv_iconst (v := (-1)) hx hb dX5_readItem_70 (by decide) ?_
          refine lv_icmp_ne (tgt := 76) hx hb dX5_readItem_71 (by decide) (fun c71 => ?_) (fun c71 => ?_)
          · exact absurd c71 (by decide)
          · refine lv_iconst (v := 0) hx hb dX5_readItem_74 (by decide) ?_
            have hP9 := hP.sub (ws' := [(q, .inr (5, [.ref q_draft, .int u52_17, .int u52_18, .ref q_text, .int t_length, .int u52_19, .int u52_20, .int u52_21, .int u52_22])), (q_draft, .inr (8, [.int t_draft_items, .int t_draft_capacity, .int t_draft_limit, .int t_draft_mustSet, .int t_draft_neverSet, .int t_draft_hand, .ref q_draft_weight, .ref q_draft_gain, .ref q_draft_joy, .ref q_draft_bars, .ref q_draft_needs])), (q_text, .inl (C 1, 600, .inl t_text)), (q_draft_weight, .inl (C 0, 12, .inl t_draft_weight)), (q_draft_gain, .inl (C 0, 12, .inl t_draft_gain)), (q_draft_joy, .inl (C 0, 12, .inl t_draft_joy)), (q_draft_bars, .inl (C 0, 12, .inl t_draft_bars)), (q_draft_needs, .inl (C 0, 12, .inl t_draft_needs))]) [6, 0, 7, 1, 2, 3, 4, 5] rfl
            have hD9 := hD.sub (ws' := [(q, .inr (5, [.ref q_draft, .int u52_17, .int u52_18, .ref q_text, .int t_length, .int u52_19, .int u52_20, .int u52_21, .int u52_22])), (q_draft, .inr (8, [.int t_draft_items, .int t_draft_capacity, .int t_draft_limit, .int t_draft_mustSet, .int t_draft_neverSet, .int t_draft_hand, .ref q_draft_weight, .ref q_draft_gain, .ref q_draft_joy, .ref q_draft_bars, .ref q_draft_needs])), (q_text, .inl (C 1, 600, .inl t_text)), (q_draft_weight, .inl (C 0, 12, .inl t_draft_weight)), (q_draft_gain, .inl (C 0, 12, .inl t_draft_gain)), (q_draft_joy, .inl (C 0, 12, .inl t_draft_joy)), (q_draft_bars, .inl (C 0, 12, .inl t_draft_bars)), (q_draft_needs, .inl (C 0, 12, .inl t_draft_needs))]) [6, 0, 7, 1, 2, 3, 4, 5] (by decide) rfl
            exact W.zret (v := (0 : Int32)) (ty := .boolean) hx hb hr rfl (fun t ht hW => ⟨⟨(0 : Int32), (u52_17, u52_18, u52_19, u52_20, u52_21, u52_22, t_draft_items, t_draft_weight, t_draft_gain, t_draft_joy, t_draft_bars, t_draft_needs), rfl, hwp, by rw [ht]; exact hP9, va_K.moved hW.alike hK, hD9⟩, hS.F ht⟩) hS.2.2 dX5_readItem_75
        · have hwp := hwp.2 c55
          refine lv_aload_n hx hb dX5_readItem_58 rfl (lv_at hl 1 rfl) ?_
          refine lv_bipush (v := 99) hx hb dX5_readItem_59 (by decide) ?_
          have hPc := hP.sub (ws' := [(q, .inr (5, [.ref q_draft, .int u52_17, .int u52_18, .ref q_text, .int t_length, .int u52_19, .int u52_20, .int u52_21, .int u52_22])), (q_text, .inl (C 1, 600, .inl t_text))]) [6, 7] rfl
          have hDc := hD.sub (ws' := [(q, .inr (5, [.ref q_draft, .int u52_17, .int u52_18, .ref q_text, .int t_length, .int u52_19, .int u52_20, .int u52_21, .int u52_22])), (q_text, .inl (C 1, 600, .inl t_text))]) [6, 7] (by decide) rfl
          have hFc := va_free (wc := [(q, .inr (5, [.ref q_draft, .int u52_17, .int u52_18, .ref q_text, .int t_length, .int u52_19, .int u52_20, .int u52_21, .int u52_22])), (q_text, .inl (C 1, 600, .inl t_text))]) hD hS hA [6, 7] rfl
          refine va_calli (va_runV (As := [.int (99 : Int32)]) (rest := []) ⟨hx, hb, hml, hown, hts⟩ (met_X5_passNumber l D C q q_draft q_text (99 : Int32) u52_17 u52_18 t_length u52_19 u52_20 u52_21 u52_22 t_text H.size _ hwp) (cwV 1 hts gc_X5_102 rfl rfl rfl (by decide +kernel) ⟨Nat.le_of_ble_eq_true rfl, Nat.le_of_ble_eq_true rfl⟩) ⟨fun a U g mk q => by obtain ⟨q0, q1, qP, qK, qD⟩ := q; exact ⟨q0, q1, qP, va_K.moved (u := U) (U := U.calling g mk a) (Vm.Alike.refl U.vm) qK, qD⟩, va_recv hK hPc (ci := 5) (q0 := 0) rfl rfl, fun U hU hW => ⟨rfl, by rw [hU], by rw [hU]; exact hPc, va_K.moved hW.alike hK, hDc.weaken (fun _ _ _ _ => trivial)⟩⟩ rfl rfl hl.1 rfl (lv_room (Nat.le_of_ble_eq_true rfl)) dX5_readItem_61 ⟨Nat.zero_le _, Nat.zero_le _⟩) hS (fun q _ h => hFc q h) hFc (fun r61 u t H1 locs ht hvm hwp hB hz1 hk1 hS => ?_)
          obtain ⟨u61_23, u61_24, u61_25, u61_26, u61_27, u61_28⟩ := u
          obtain ⟨hP1, -, hD1⟩ := hB
          rw [ht] at hP1
          obtain ⟨hP, hD⟩ := va_join (wr := [(q_draft, .inr (8, [.int t_draft_items, .int t_draft_capacity, .int t_draft_limit, .int t_draft_mustSet, .int t_draft_neverSet, .int t_draft_hand, .ref q_draft_weight, .ref q_draft_gain, .ref q_draft_joy, .ref q_draft_bars, .ref q_draft_needs])), (q_draft_weight, .inl (C 0, 12, .inl t_draft_weight)), (q_draft_gain, .inl (C 0, 12, .inl t_draft_gain)), (q_draft_joy, .inl (C 0, 12, .inl t_draft_joy)), (q_draft_bars, .inl (C 0, 12, .inl t_draft_bars)), (q_draft_needs, .inl (C 0, 12, .inl t_draft_needs))]) (w1 := [(q, .inr (5, [.ref q_draft, .int u61_23, .int u61_24, .ref q_text, .int t_length, .int u61_25, .int u61_26, .int u61_27, .int u61_28])), (q_text, .inl (C 1, 600, .inl t_text))]) hP hD [6, 7] [0, 1, 2, 3, 4, 5] rfl rfl (by decide) (by decide) hk1 hFc hP1 hD1
          generalize H1 = H at hP hS ⊢
          have hP : va_P D vwCl [(q_draft, .inr (8, [.int t_draft_items, .int t_draft_capacity, .int t_draft_limit, .int t_draft_mustSet, .int t_draft_neverSet, .int t_draft_hand, .ref q_draft_weight, .ref q_draft_gain, .ref q_draft_joy, .ref q_draft_bars, .ref q_draft_needs])), (q_draft_weight, .inl (C 0, 12, .inl t_draft_weight)), (q_draft_gain, .inl (C 0, 12, .inl t_draft_gain)), (q_draft_joy, .inl (C 0, 12, .inl t_draft_joy)), (q_draft_bars, .inl (C 0, 12, .inl t_draft_bars)), (q_draft_needs, .inl (C 0, 12, .inl t_draft_needs)), (q, .inr (5, [.ref q_draft, .int u61_23, .int u61_24, .ref q_text, .int t_length, .int u61_25, .int u61_26, .int u61_27, .int u61_28])), (q_text, .inl (C 1, 600, .inl t_text))] H := hP
          have hD : va_D A [(q_draft, .inr (8, [.int t_draft_items, .int t_draft_capacity, .int t_draft_limit, .int t_draft_mustSet, .int t_draft_neverSet, .int t_draft_hand, .ref q_draft_weight, .ref q_draft_gain, .ref q_draft_joy, .ref q_draft_bars, .ref q_draft_needs])), (q_draft_weight, .inl (C 0, 12, .inl t_draft_weight)), (q_draft_gain, .inl (C 0, 12, .inl t_draft_gain)), (q_draft_joy, .inl (C 0, 12, .inl t_draft_joy)), (q_draft_bars, .inl (C 0, 12, .inl t_draft_bars)), (q_draft_needs, .inl (C 0, 12, .inl t_draft_needs)), (q, .inr (5, [.ref q_draft, .int u61_23, .int u61_24, .ref q_text, .int t_length, .int u61_25, .int u61_26, .int u61_27, .int u61_28])), (q_text, .inl (C 1, 600, .inl t_text))] := hD
          refine lv_goto (tgt := 68) hx hb dX5_readItem_64 (by decide) ?_
          refine lv_istore_n (lv' := [(2, .int r61), (1, .int r34), (0, .ref q)]) hx hb dX5_readItem_68 rfl hl (by decide) rfl (fun ls hl => ?_)
          refine lv_iload_n hx hb dX5_readItem_69 rfl (lv_at hl 0 rfl) ?_
          refine lv_iconst (v := (-1)) hx hb dX5_readItem_70 (by decide) ?_
          refine lv_icmp_ne (tgt := 76) hx hb dX5_readItem_71 (by decide) (fun c71 => ?_) (fun c71 => ?_)
          · have hwp := hwp.1 c71
            refine lv_aload_n hx hb dX5_readItem_76 rfl (lv_at hl 2 rfl) ?_
            obtain ⟨sa77, hr_sa77, hs_sa77⟩ := hT.2.2.2.2.2.1 ("ParetoDesk$Parser", 142, "joy", [106, 111, 121]) (by decide)
            refine va_ldcS (own := RX5) (tx := "joy") hx hb hown hr_sa77 dX5_readItem_77 ?_
            have hPc := hP.sub (ws' := [(q, .inr (5, [.ref q_draft, .int u61_23, .int u61_24, .ref q_text, .int t_length, .int u61_25, .int u61_26, .int u61_27, .int u61_28])), (q_text, .inl (C 1, 600, .inl t_text))]) [6, 7] rfl
            have hDc := hD.sub (ws' := [(q, .inr (5, [.ref q_draft, .int u61_23, .int u61_24, .ref q_text, .int t_length, .int u61_25, .int u61_26, .int u61_27, .int u61_28])), (q_text, .inl (C 1, 600, .inl t_text))]) [6, 7] (by decide) rfl
            have hFc := va_free (wc := [(q, .inr (5, [.ref q_draft, .int u61_23, .int u61_24, .ref q_text, .int t_length, .int u61_25, .int u61_26, .int u61_27, .int u61_28])), (q_text, .inl (C 1, 600, .inl t_text))]) hD hS hA [6, 7] rfl
            refine va_calli (va_runV (As := [.ref sa77]) (rest := []) ⟨hx, hb, hml, hown, hts⟩ (met_X5_passWord l hst D C q q_draft q_text sa77 ([106, 111, 121]) u61_23 u61_24 t_length u61_25 u61_26 u61_27 u61_28 t_text H.size _ hwp) (cwV 1 hts gc_X5_99 rfl rfl rfl (by decide +kernel) ⟨Nat.le_of_ble_eq_true rfl, Nat.le_of_ble_eq_true rfl⟩) ⟨fun a U g mk q => by obtain ⟨q0, q1, qP, qK, qD, qT, qS_q1⟩ := q; exact ⟨q0, q1, qP, va_K.moved (u := U) (U := U.calling g mk a) (Vm.Alike.refl U.vm) qK, qD, qT.mv (U := U.calling g mk a) (State.WarmedH.refl U), qS_q1.moved (U := U.calling g mk a) (Vm.Alike.refl U.vm)⟩, va_recv hK hPc (ci := 5) (q0 := 0) rfl rfl, fun U hU hW => ⟨rfl, by rw [hU], by rw [hU]; exact hPc, va_K.moved hW.alike hK, hDc.weaken (fun _ _ _ _ => trivial), hT.call hS hFc hU hW, hs_sa77.call hS hFc hU hW⟩⟩ rfl rfl hl.1 rfl (lv_room (Nat.le_of_ble_eq_true rfl)) dX5_readItem_79 ⟨Nat.zero_le _, Nat.zero_le _⟩) hS (fun q _ h => hFc q h) hFc (fun r79 u t H1 locs ht hvm hwp hB hz1 hk1 hS => ?_)
            obtain ⟨u79_29, u79_30, u79_31, u79_32, u79_33, u79_34⟩ := u
            obtain ⟨hP1, -, hD1⟩ := hB
            rw [ht] at hP1
            obtain ⟨hP, hD⟩ := va_join (wr := [(q_draft, .inr (8, [.int t_draft_items, .int t_draft_capacity, .int t_draft_limit, .int t_draft_mustSet, .int t_draft_neverSet, .int t_draft_hand, .ref q_draft_weight, .ref q_draft_gain, .ref q_draft_joy, .ref q_draft_bars, .ref q_draft_needs])), (q_draft_weight, .inl (C 0, 12, .inl t_draft_weight)), (q_draft_gain, .inl (C 0, 12, .inl t_draft_gain)), (q_draft_joy, .inl (C 0, 12, .inl t_draft_joy)), (q_draft_bars, .inl (C 0, 12, .inl t_draft_bars)), (q_draft_needs, .inl (C 0, 12, .inl t_draft_needs))]) (w1 := [(q, .inr (5, [.ref q_draft, .int u79_29, .int u79_30, .ref q_text, .int t_length, .int u79_31, .int u79_32, .int u79_33, .int u79_34])), (q_text, .inl (C 1, 600, .inl t_text))]) hP hD [6, 7] [0, 1, 2, 3, 4, 5] rfl rfl (by decide) (by decide) hk1 hFc hP1 hD1
            generalize H1 = H at hP hS ⊢
            have hP : va_P D vwCl [(q_draft, .inr (8, [.int t_draft_items, .int t_draft_capacity, .int t_draft_limit, .int t_draft_mustSet, .int t_draft_neverSet, .int t_draft_hand, .ref q_draft_weight, .ref q_draft_gain, .ref q_draft_joy, .ref q_draft_bars, .ref q_draft_needs])), (q_draft_weight, .inl (C 0, 12, .inl t_draft_weight)), (q_draft_gain, .inl (C 0, 12, .inl t_draft_gain)), (q_draft_joy, .inl (C 0, 12, .inl t_draft_joy)), (q_draft_bars, .inl (C 0, 12, .inl t_draft_bars)), (q_draft_needs, .inl (C 0, 12, .inl t_draft_needs)), (q, .inr (5, [.ref q_draft, .int u79_29, .int u79_30, .ref q_text, .int t_length, .int u79_31, .int u79_32, .int u79_33, .int u79_34])), (q_text, .inl (C 1, 600, .inl t_text))] H := hP
            have hD : va_D A [(q_draft, .inr (8, [.int t_draft_items, .int t_draft_capacity, .int t_draft_limit, .int t_draft_mustSet, .int t_draft_neverSet, .int t_draft_hand, .ref q_draft_weight, .ref q_draft_gain, .ref q_draft_joy, .ref q_draft_bars, .ref q_draft_needs])), (q_draft_weight, .inl (C 0, 12, .inl t_draft_weight)), (q_draft_gain, .inl (C 0, 12, .inl t_draft_gain)), (q_draft_joy, .inl (C 0, 12, .inl t_draft_joy)), (q_draft_bars, .inl (C 0, 12, .inl t_draft_bars)), (q_draft_needs, .inl (C 0, 12, .inl t_draft_needs)), (q, .inr (5, [.ref q_draft, .int u79_29, .int u79_30, .ref q_text, .int t_length, .int u79_31, .int u79_32, .int u79_33, .int u79_34])), (q_text, .inl (C 1, 600, .inl t_text))] := hD
            refine lv_if_eq (tgt := 94) hx hb dX5_readItem_82 (by decide) (fun c82 => ?_) (fun c82 => ?_)
            · have hwp := hwp.1 c82
              refine lv_iconst (v := (-1)) hx hb dX5_readItem_94 (by decide) ?_
              refine lv_istore_n (lv' := [(3, .int (-1 : Int32)), (2, .int r61), (1, .int r34), (0, .ref q)]) hx hb dX5_readItem_95 rfl hl (by decide) rfl (fun ls hl => ?_)
              refine lv_iload_n hx hb dX5_readItem_96 rfl (lv_at hl 0 rfl) ?_
              refine lv_iconst (v := (-1)) hx hb dX5_readItem_97 (by decide) ?_
              refine lv_icmp_ne (tgt := 103) hx hb dX5_readItem_98 (by decide) (fun c98 => ?_) (fun c98 => ?_)
              · exact absurd c98 (by decide)
              · refine lv_iconst (v := 0) hx hb dX5_readItem_101 (by decide) ?_
                have hP9 := hP.sub (ws' := [(q, .inr (5, [.ref q_draft, .int u79_29, .int u79_30, .ref q_text, .int t_length, .int u79_31, .int u79_32, .int u79_33, .int u79_34])), (q_draft, .inr (8, [.int t_draft_items, .int t_draft_capacity, .int t_draft_limit, .int t_draft_mustSet, .int t_draft_neverSet, .int t_draft_hand, .ref q_draft_weight, .ref q_draft_gain, .ref q_draft_joy, .ref q_draft_bars, .ref q_draft_needs])), (q_text, .inl (C 1, 600, .inl t_text)), (q_draft_weight, .inl (C 0, 12, .inl t_draft_weight)), (q_draft_gain, .inl (C 0, 12, .inl t_draft_gain)), (q_draft_joy, .inl (C 0, 12, .inl t_draft_joy)), (q_draft_bars, .inl (C 0, 12, .inl t_draft_bars)), (q_draft_needs, .inl (C 0, 12, .inl t_draft_needs))]) [6, 0, 7, 1, 2, 3, 4, 5] rfl
                have hD9 := hD.sub (ws' := [(q, .inr (5, [.ref q_draft, .int u79_29, .int u79_30, .ref q_text, .int t_length, .int u79_31, .int u79_32, .int u79_33, .int u79_34])), (q_draft, .inr (8, [.int t_draft_items, .int t_draft_capacity, .int t_draft_limit, .int t_draft_mustSet, .int t_draft_neverSet, .int t_draft_hand, .ref q_draft_weight, .ref q_draft_gain, .ref q_draft_joy, .ref q_draft_bars, .ref q_draft_needs])), (q_text, .inl (C 1, 600, .inl t_text)), (q_draft_weight, .inl (C 0, 12, .inl t_draft_weight)), (q_draft_gain, .inl (C 0, 12, .inl t_draft_gain)), (q_draft_joy, .inl (C 0, 12, .inl t_draft_joy)), (q_draft_bars, .inl (C 0, 12, .inl t_draft_bars)), (q_draft_needs, .inl (C 0, 12, .inl t_draft_needs))]) [6, 0, 7, 1, 2, 3, 4, 5] (by decide) rfl
                exact W.zret (v := (0 : Int32)) (ty := .boolean) hx hb hr rfl (fun t ht hW => ⟨⟨(0 : Int32), (u79_29, u79_30, u79_31, u79_32, u79_33, u79_34, t_draft_items, t_draft_weight, t_draft_gain, t_draft_joy, t_draft_bars, t_draft_needs), rfl, hwp, by rw [ht]; exact hP9, va_K.moved hW.alike hK, hD9⟩, hS.F ht⟩) hS.2.2 dX5_readItem_102
            · have hwp := hwp.2 c82
              refine lv_aload_n hx hb dX5_readItem_85 rfl (lv_at hl 2 rfl) ?_
              refine lv_bipush (v := 99) hx hb dX5_readItem_86 (by decide) ?_
              have hPc := hP.sub (ws' := [(q, .inr (5, [.ref q_draft, .int u79_29, .int u79_30, .ref q_text, .int t_length, .int u79_31, .int u79_32, .int u79_33, .int u79_34])), (q_text, .inl (C 1, 600, .inl t_text))]) [6, 7] rfl
              have hDc := hD.sub (ws' := [(q, .inr (5, [.ref q_draft, .int u79_29, .int u79_30, .ref q_text, .int t_length, .int u79_31, .int u79_32, .int u79_33, .int u79_34])), (q_text, .inl (C 1, 600, .inl t_text))]) [6, 7] (by decide) rfl
              have hFc := va_free (wc := [(q, .inr (5, [.ref q_draft, .int u79_29, .int u79_30, .ref q_text, .int t_length, .int u79_31, .int u79_32, .int u79_33, .int u79_34])), (q_text, .inl (C 1, 600, .inl t_text))]) hD hS hA [6, 7] rfl
              refine va_calli (va_runV (As := [.int (99 : Int32)]) (rest := []) ⟨hx, hb, hml, hown, hts⟩ (met_X5_passNumber l D C q q_draft q_text (99 : Int32) u79_29 u79_30 t_length u79_31 u79_32 u79_33 u79_34 t_text H.size _ hwp) (cwV 1 hts gc_X5_102 rfl rfl rfl (by decide +kernel) ⟨Nat.le_of_ble_eq_true rfl, Nat.le_of_ble_eq_true rfl⟩) ⟨fun a U g mk q => by obtain ⟨q0, q1, qP, qK, qD⟩ := q; exact ⟨q0, q1, qP, va_K.moved (u := U) (U := U.calling g mk a) (Vm.Alike.refl U.vm) qK, qD⟩, va_recv hK hPc (ci := 5) (q0 := 0) rfl rfl, fun U hU hW => ⟨rfl, by rw [hU], by rw [hU]; exact hPc, va_K.moved hW.alike hK, hDc.weaken (fun _ _ _ _ => trivial)⟩⟩ rfl rfl hl.1 rfl (lv_room (Nat.le_of_ble_eq_true rfl)) dX5_readItem_88 ⟨Nat.zero_le _, Nat.zero_le _⟩) hS (fun q _ h => hFc q h) hFc (fun r88 u t H1 locs ht hvm hwp hB hz1 hk1 hS => ?_)
              obtain ⟨u88_35, u88_36, u88_37, u88_38, u88_39, u88_40⟩ := u
              obtain ⟨hP1, -, hD1⟩ := hB
              rw [ht] at hP1
              obtain ⟨hP, hD⟩ := va_join (wr := [(q_draft, .inr (8, [.int t_draft_items, .int t_draft_capacity, .int t_draft_limit, .int t_draft_mustSet, .int t_draft_neverSet, .int t_draft_hand, .ref q_draft_weight, .ref q_draft_gain, .ref q_draft_joy, .ref q_draft_bars, .ref q_draft_needs])), (q_draft_weight, .inl (C 0, 12, .inl t_draft_weight)), (q_draft_gain, .inl (C 0, 12, .inl t_draft_gain)), (q_draft_joy, .inl (C 0, 12, .inl t_draft_joy)), (q_draft_bars, .inl (C 0, 12, .inl t_draft_bars)), (q_draft_needs, .inl (C 0, 12, .inl t_draft_needs))]) (w1 := [(q, .inr (5, [.ref q_draft, .int u88_35, .int u88_36, .ref q_text, .int t_length, .int u88_37, .int u88_38, .int u88_39, .int u88_40])), (q_text, .inl (C 1, 600, .inl t_text))]) hP hD [6, 7] [0, 1, 2, 3, 4, 5] rfl rfl (by decide) (by decide) hk1 hFc hP1 hD1
              generalize H1 = H at hP hS ⊢
              have hP : va_P D vwCl [(q_draft, .inr (8, [.int t_draft_items, .int t_draft_capacity, .int t_draft_limit, .int t_draft_mustSet, .int t_draft_neverSet, .int t_draft_hand, .ref q_draft_weight, .ref q_draft_gain, .ref q_draft_joy, .ref q_draft_bars, .ref q_draft_needs])), (q_draft_weight, .inl (C 0, 12, .inl t_draft_weight)), (q_draft_gain, .inl (C 0, 12, .inl t_draft_gain)), (q_draft_joy, .inl (C 0, 12, .inl t_draft_joy)), (q_draft_bars, .inl (C 0, 12, .inl t_draft_bars)), (q_draft_needs, .inl (C 0, 12, .inl t_draft_needs)), (q, .inr (5, [.ref q_draft, .int u88_35, .int u88_36, .ref q_text, .int t_length, .int u88_37, .int u88_38, .int u88_39, .int u88_40])), (q_text, .inl (C 1, 600, .inl t_text))] H := hP
              have hD : va_D A [(q_draft, .inr (8, [.int t_draft_items, .int t_draft_capacity, .int t_draft_limit, .int t_draft_mustSet, .int t_draft_neverSet, .int t_draft_hand, .ref q_draft_weight, .ref q_draft_gain, .ref q_draft_joy, .ref q_draft_bars, .ref q_draft_needs])), (q_draft_weight, .inl (C 0, 12, .inl t_draft_weight)), (q_draft_gain, .inl (C 0, 12, .inl t_draft_gain)), (q_draft_joy, .inl (C 0, 12, .inl t_draft_joy)), (q_draft_bars, .inl (C 0, 12, .inl t_draft_bars)), (q_draft_needs, .inl (C 0, 12, .inl t_draft_needs)), (q, .inr (5, [.ref q_draft, .int u88_35, .int u88_36, .ref q_text, .int t_length, .int u88_37, .int u88_38, .int u88_39, .int u88_40])), (q_text, .inl (C 1, 600, .inl t_text))] := hD
              refine lv_goto (tgt := 95) hx hb dX5_readItem_91 (by decide) ?_
              refine lv_istore_n (lv' := [(3, .int r88), (2, .int r61), (1, .int r34), (0, .ref q)]) hx hb dX5_readItem_95 rfl hl (by decide) rfl (fun ls hl => ?_)
              refine lv_iload_n hx hb dX5_readItem_96 rfl (lv_at hl 0 rfl) ?_
              refine lv_iconst (v := (-1)) hx hb dX5_readItem_97 (by decide) ?_
              refine lv_icmp_ne (tgt := 103) hx hb dX5_readItem_98 (by decide) (fun c98 => ?_) (fun c98 => ?_)
              · have hwp := hwp.1 c98
                refine lv_aload_n hx hb dX5_readItem_103 rfl (lv_at hl 3 rfl) ?_
                refine va_get (D := D) (ci := 5) (v := .ref q_draft) (C := RX5) (T := TX5) (N := 9) hx hb hts iwX5 hown hK hP 6 rfl rfl 0 (by decide) (hts (.fieldLink RX5 12 "ParetoDesk$Parser" "draft" "LParetoDesk$Setup;") wd_147) (fun _ h9 => h9) rfl dX5_readItem_104 ?_
                refine lv_iload_n hx hb dX5_readItem_107 rfl (lv_at hl 2 rfl) ?_
                refine lv_iload_n hx hb dX5_readItem_108 rfl (lv_at hl 1 rfl) ?_
                refine lv_iload_n hx hb dX5_readItem_109 rfl (lv_at hl 0 rfl) ?_
                have hPc := hP.sub (ws' := [(q_draft, .inr (8, [.int t_draft_items, .int t_draft_capacity, .int t_draft_limit, .int t_draft_mustSet, .int t_draft_neverSet, .int t_draft_hand, .ref q_draft_weight, .ref q_draft_gain, .ref q_draft_joy, .ref q_draft_bars, .ref q_draft_needs])), (q_draft_weight, .inl (C 0, 12, .inl t_draft_weight)), (q_draft_gain, .inl (C 0, 12, .inl t_draft_gain)), (q_draft_joy, .inl (C 0, 12, .inl t_draft_joy)), (q_draft_bars, .inl (C 0, 12, .inl t_draft_bars)), (q_draft_needs, .inl (C 0, 12, .inl t_draft_needs))]) [0, 1, 2, 3, 4, 5] rfl
                have hDc := hD.sub (ws' := [(q_draft, .inr (8, [.int t_draft_items, .int t_draft_capacity, .int t_draft_limit, .int t_draft_mustSet, .int t_draft_neverSet, .int t_draft_hand, .ref q_draft_weight, .ref q_draft_gain, .ref q_draft_joy, .ref q_draft_bars, .ref q_draft_needs])), (q_draft_weight, .inl (C 0, 12, .inl t_draft_weight)), (q_draft_gain, .inl (C 0, 12, .inl t_draft_gain)), (q_draft_joy, .inl (C 0, 12, .inl t_draft_joy)), (q_draft_bars, .inl (C 0, 12, .inl t_draft_bars)), (q_draft_needs, .inl (C 0, 12, .inl t_draft_needs))]) [0, 1, 2, 3, 4, 5] (by decide) rfl
                have hFc := va_free (wc := [(q_draft, .inr (8, [.int t_draft_items, .int t_draft_capacity, .int t_draft_limit, .int t_draft_mustSet, .int t_draft_neverSet, .int t_draft_hand, .ref q_draft_weight, .ref q_draft_gain, .ref q_draft_joy, .ref q_draft_bars, .ref q_draft_needs])), (q_draft_weight, .inl (C 0, 12, .inl t_draft_weight)), (q_draft_gain, .inl (C 0, 12, .inl t_draft_gain)), (q_draft_joy, .inl (C 0, 12, .inl t_draft_joy)), (q_draft_bars, .inl (C 0, 12, .inl t_draft_bars)), (q_draft_needs, .inl (C 0, 12, .inl t_draft_needs))]) hD hS hA [0, 1, 2, 3, 4, 5] rfl
                refine va_callv (va_runV (As := [.int r34, .int r61, .int r88]) (rest := []) ⟨hx, hb, hml, hown, hts⟩ (met_X8_addLast l D C q_draft q_draft_weight q_draft_gain q_draft_joy q_draft_bars q_draft_needs r34 r61 r88 t_draft_items t_draft_capacity t_draft_limit t_draft_mustSet t_draft_neverSet t_draft_hand t_draft_weight t_draft_gain t_draft_joy t_draft_bars t_draft_needs H.size _ hwp) (cwV 3 hts gc_X5_144 rfl rfl rfl (by decide +kernel) ⟨Nat.le_of_ble_eq_true rfl, Nat.le_of_ble_eq_true rfl⟩) ⟨fun a U g mk q => by obtain ⟨q0, q1, qP, qK, qD⟩ := q; exact ⟨q0, q1, qP, va_K.moved (u := U) (U := U.calling g mk a) (Vm.Alike.refl U.vm) qK, qD⟩, va_recv hK hPc (ci := 8) (q0 := 0) rfl rfl, fun U hU hW => ⟨rfl, by rw [hU], by rw [hU]; exact hPc, va_K.moved hW.alike hK, hDc.weaken (fun _ _ _ _ => trivial)⟩⟩ rfl rfl hl.1 rfl (lv_room (Nat.le_of_ble_eq_true rfl)) dX5_readItem_110 ⟨Nat.zero_le _, Nat.zero_le _⟩) hS (fun q _ h => hFc q h) hFc (fun u t H1 locs ht hvm hwp hB hz1 hk1 hS => ?_)
                obtain ⟨u110_41, u110_42, u110_43, u110_44, u110_45, u110_46⟩ := u
                obtain ⟨hP1, -, hD1⟩ := hB
                rw [ht] at hP1
                obtain ⟨hP, hD⟩ := va_join (wr := [(q, .inr (5, [.ref q_draft, .int u88_35, .int u88_36, .ref q_text, .int t_length, .int u88_37, .int u88_38, .int u88_39, .int u88_40])), (q_text, .inl (C 1, 600, .inl t_text))]) (w1 := [(q_draft, .inr (8, [.int u110_41, .int t_draft_capacity, .int t_draft_limit, .int t_draft_mustSet, .int t_draft_neverSet, .int t_draft_hand, .ref q_draft_weight, .ref q_draft_gain, .ref q_draft_joy, .ref q_draft_bars, .ref q_draft_needs])), (q_draft_weight, .inl (C 0, 12, .inl u110_42)), (q_draft_gain, .inl (C 0, 12, .inl u110_43)), (q_draft_joy, .inl (C 0, 12, .inl u110_44)), (q_draft_bars, .inl (C 0, 12, .inl u110_45)), (q_draft_needs, .inl (C 0, 12, .inl u110_46))]) hP hD [0, 1, 2, 3, 4, 5] [6, 7] rfl rfl (by decide) (by decide) hk1 hFc hP1 hD1
                generalize H1 = H at hP hS ⊢
                have hP : va_P D vwCl [(q, .inr (5, [.ref q_draft, .int u88_35, .int u88_36, .ref q_text, .int t_length, .int u88_37, .int u88_38, .int u88_39, .int u88_40])), (q_text, .inl (C 1, 600, .inl t_text)), (q_draft, .inr (8, [.int u110_41, .int t_draft_capacity, .int t_draft_limit, .int t_draft_mustSet, .int t_draft_neverSet, .int t_draft_hand, .ref q_draft_weight, .ref q_draft_gain, .ref q_draft_joy, .ref q_draft_bars, .ref q_draft_needs])), (q_draft_weight, .inl (C 0, 12, .inl u110_42)), (q_draft_gain, .inl (C 0, 12, .inl u110_43)), (q_draft_joy, .inl (C 0, 12, .inl u110_44)), (q_draft_bars, .inl (C 0, 12, .inl u110_45)), (q_draft_needs, .inl (C 0, 12, .inl u110_46))] H := hP
                have hD : va_D A [(q, .inr (5, [.ref q_draft, .int u88_35, .int u88_36, .ref q_text, .int t_length, .int u88_37, .int u88_38, .int u88_39, .int u88_40])), (q_text, .inl (C 1, 600, .inl t_text)), (q_draft, .inr (8, [.int u110_41, .int t_draft_capacity, .int t_draft_limit, .int t_draft_mustSet, .int t_draft_neverSet, .int t_draft_hand, .ref q_draft_weight, .ref q_draft_gain, .ref q_draft_joy, .ref q_draft_bars, .ref q_draft_needs])), (q_draft_weight, .inl (C 0, 12, .inl u110_42)), (q_draft_gain, .inl (C 0, 12, .inl u110_43)), (q_draft_joy, .inl (C 0, 12, .inl u110_44)), (q_draft_bars, .inl (C 0, 12, .inl u110_45)), (q_draft_needs, .inl (C 0, 12, .inl u110_46))] := hD
                refine lv_aload_n hx hb dX5_readItem_113 rfl (lv_at hl 3 rfl) ?_
                have hPc := hP.sub (ws' := [(q, .inr (5, [.ref q_draft, .int u88_35, .int u88_36, .ref q_text, .int t_length, .int u88_37, .int u88_38, .int u88_39, .int u88_40])), (q_text, .inl (C 1, 600, .inl t_text))]) [0, 1] rfl
                have hDc := hD.sub (ws' := [(q, .inr (5, [.ref q_draft, .int u88_35, .int u88_36, .ref q_text, .int t_length, .int u88_37, .int u88_38, .int u88_39, .int u88_40])), (q_text, .inl (C 1, 600, .inl t_text))]) [0, 1] (by decide) rfl
                have hFc := va_free (wc := [(q, .inr (5, [.ref q_draft, .int u88_35, .int u88_36, .ref q_text, .int t_length, .int u88_37, .int u88_38, .int u88_39, .int u88_40])), (q_text, .inl (C 1, 600, .inl t_text))]) hD hS hA [0, 1] rfl
                refine va_calli (va_runV (As := []) (rest := []) ⟨hx, hb, hml, hown, hts⟩ (met_X5_passEnd l D C q q_draft q_text u88_35 u88_36 t_length u88_37 u88_38 u88_39 u88_40 t_text H.size _ hwp) (cwV 0 hts gc_X5_112 rfl rfl rfl (by decide +kernel) ⟨Nat.le_of_ble_eq_true rfl, Nat.le_of_ble_eq_true rfl⟩) ⟨fun a U g mk q => by obtain ⟨q0, q1, qP, qK, qD⟩ := q; exact ⟨q0, q1, qP, va_K.moved (u := U) (U := U.calling g mk a) (Vm.Alike.refl U.vm) qK, qD⟩, va_recv hK hPc (ci := 5) (q0 := 0) rfl rfl, fun U hU hW => ⟨rfl, by rw [hU], by rw [hU]; exact hPc, va_K.moved hW.alike hK, hDc.weaken (fun _ _ _ _ => trivial)⟩⟩ rfl rfl hl.1 rfl (lv_room (Nat.le_of_ble_eq_true rfl)) dX5_readItem_114 ⟨Nat.zero_le _, Nat.zero_le _⟩) hS (fun q _ h => hFc q h) hFc (fun r114 u t H1 locs ht hvm hwp hB hz1 hk1 hS => ?_)
                obtain ⟨u114_47, u114_48, u114_49, u114_50, u114_51, u114_52⟩ := u
                obtain ⟨hP1, -, hD1⟩ := hB
                rw [ht] at hP1
                obtain ⟨hP, hD⟩ := va_join (wr := [(q_draft, .inr (8, [.int u110_41, .int t_draft_capacity, .int t_draft_limit, .int t_draft_mustSet, .int t_draft_neverSet, .int t_draft_hand, .ref q_draft_weight, .ref q_draft_gain, .ref q_draft_joy, .ref q_draft_bars, .ref q_draft_needs])), (q_draft_weight, .inl (C 0, 12, .inl u110_42)), (q_draft_gain, .inl (C 0, 12, .inl u110_43)), (q_draft_joy, .inl (C 0, 12, .inl u110_44)), (q_draft_bars, .inl (C 0, 12, .inl u110_45)), (q_draft_needs, .inl (C 0, 12, .inl u110_46))]) (w1 := [(q, .inr (5, [.ref q_draft, .int u114_47, .int u114_48, .ref q_text, .int t_length, .int u114_49, .int u114_50, .int u114_51, .int u114_52])), (q_text, .inl (C 1, 600, .inl t_text))]) hP hD [0, 1] [2, 3, 4, 5, 6, 7] rfl rfl (by decide) (by decide) hk1 hFc hP1 hD1
                generalize H1 = H at hP hS ⊢
                have hP : va_P D vwCl [(q_draft, .inr (8, [.int u110_41, .int t_draft_capacity, .int t_draft_limit, .int t_draft_mustSet, .int t_draft_neverSet, .int t_draft_hand, .ref q_draft_weight, .ref q_draft_gain, .ref q_draft_joy, .ref q_draft_bars, .ref q_draft_needs])), (q_draft_weight, .inl (C 0, 12, .inl u110_42)), (q_draft_gain, .inl (C 0, 12, .inl u110_43)), (q_draft_joy, .inl (C 0, 12, .inl u110_44)), (q_draft_bars, .inl (C 0, 12, .inl u110_45)), (q_draft_needs, .inl (C 0, 12, .inl u110_46)), (q, .inr (5, [.ref q_draft, .int u114_47, .int u114_48, .ref q_text, .int t_length, .int u114_49, .int u114_50, .int u114_51, .int u114_52])), (q_text, .inl (C 1, 600, .inl t_text))] H := hP
                have hD : va_D A [(q_draft, .inr (8, [.int u110_41, .int t_draft_capacity, .int t_draft_limit, .int t_draft_mustSet, .int t_draft_neverSet, .int t_draft_hand, .ref q_draft_weight, .ref q_draft_gain, .ref q_draft_joy, .ref q_draft_bars, .ref q_draft_needs])), (q_draft_weight, .inl (C 0, 12, .inl u110_42)), (q_draft_gain, .inl (C 0, 12, .inl u110_43)), (q_draft_joy, .inl (C 0, 12, .inl u110_44)), (q_draft_bars, .inl (C 0, 12, .inl u110_45)), (q_draft_needs, .inl (C 0, 12, .inl u110_46)), (q, .inr (5, [.ref q_draft, .int u114_47, .int u114_48, .ref q_text, .int t_length, .int u114_49, .int u114_50, .int u114_51, .int u114_52])), (q_text, .inl (C 1, 600, .inl t_text))] := hD
                have hP9 := hP.sub (ws' := [(q, .inr (5, [.ref q_draft, .int u114_47, .int u114_48, .ref q_text, .int t_length, .int u114_49, .int u114_50, .int u114_51, .int u114_52])), (q_draft, .inr (8, [.int u110_41, .int t_draft_capacity, .int t_draft_limit, .int t_draft_mustSet, .int t_draft_neverSet, .int t_draft_hand, .ref q_draft_weight, .ref q_draft_gain, .ref q_draft_joy, .ref q_draft_bars, .ref q_draft_needs])), (q_text, .inl (C 1, 600, .inl t_text)), (q_draft_weight, .inl (C 0, 12, .inl u110_42)), (q_draft_gain, .inl (C 0, 12, .inl u110_43)), (q_draft_joy, .inl (C 0, 12, .inl u110_44)), (q_draft_bars, .inl (C 0, 12, .inl u110_45)), (q_draft_needs, .inl (C 0, 12, .inl u110_46))]) [6, 0, 7, 1, 2, 3, 4, 5] rfl
                have hD9 := hD.sub (ws' := [(q, .inr (5, [.ref q_draft, .int u114_47, .int u114_48, .ref q_text, .int t_length, .int u114_49, .int u114_50, .int u114_51, .int u114_52])), (q_draft, .inr (8, [.int u110_41, .int t_draft_capacity, .int t_draft_limit, .int t_draft_mustSet, .int t_draft_neverSet, .int t_draft_hand, .ref q_draft_weight, .ref q_draft_gain, .ref q_draft_joy, .ref q_draft_bars, .ref q_draft_needs])), (q_text, .inl (C 1, 600, .inl t_text)), (q_draft_weight, .inl (C 0, 12, .inl u110_42)), (q_draft_gain, .inl (C 0, 12, .inl u110_43)), (q_draft_joy, .inl (C 0, 12, .inl u110_44)), (q_draft_bars, .inl (C 0, 12, .inl u110_45)), (q_draft_needs, .inl (C 0, 12, .inl u110_46))]) [6, 0, 7, 1, 2, 3, 4, 5] (by decide) rfl
                obtain ⟨hn9, hwp⟩ := hwp
                exact W.zret (v := r114) (ty := .boolean) hx hb hr hn9 (fun t ht hW => ⟨⟨r114, (u114_47, u114_48, u114_49, u114_50, u114_51, u114_52, u110_41, u110_42, u110_43, u110_44, u110_45, u110_46), rfl, hwp, by rw [ht]; exact hP9, va_K.moved hW.alike hK, hD9⟩, hS.F ht⟩) hS.2.2 dX5_readItem_117
              · have hwp := hwp.2 c98
                refine lv_iconst (v := 0) hx hb dX5_readItem_101 (by decide) ?_
                have hP9 := hP.sub (ws' := [(q, .inr (5, [.ref q_draft, .int u88_35, .int u88_36, .ref q_text, .int t_length, .int u88_37, .int u88_38, .int u88_39, .int u88_40])), (q_draft, .inr (8, [.int t_draft_items, .int t_draft_capacity, .int t_draft_limit, .int t_draft_mustSet, .int t_draft_neverSet, .int t_draft_hand, .ref q_draft_weight, .ref q_draft_gain, .ref q_draft_joy, .ref q_draft_bars, .ref q_draft_needs])), (q_text, .inl (C 1, 600, .inl t_text)), (q_draft_weight, .inl (C 0, 12, .inl t_draft_weight)), (q_draft_gain, .inl (C 0, 12, .inl t_draft_gain)), (q_draft_joy, .inl (C 0, 12, .inl t_draft_joy)), (q_draft_bars, .inl (C 0, 12, .inl t_draft_bars)), (q_draft_needs, .inl (C 0, 12, .inl t_draft_needs))]) [6, 0, 7, 1, 2, 3, 4, 5] rfl
                have hD9 := hD.sub (ws' := [(q, .inr (5, [.ref q_draft, .int u88_35, .int u88_36, .ref q_text, .int t_length, .int u88_37, .int u88_38, .int u88_39, .int u88_40])), (q_draft, .inr (8, [.int t_draft_items, .int t_draft_capacity, .int t_draft_limit, .int t_draft_mustSet, .int t_draft_neverSet, .int t_draft_hand, .ref q_draft_weight, .ref q_draft_gain, .ref q_draft_joy, .ref q_draft_bars, .ref q_draft_needs])), (q_text, .inl (C 1, 600, .inl t_text)), (q_draft_weight, .inl (C 0, 12, .inl t_draft_weight)), (q_draft_gain, .inl (C 0, 12, .inl t_draft_gain)), (q_draft_joy, .inl (C 0, 12, .inl t_draft_joy)), (q_draft_bars, .inl (C 0, 12, .inl t_draft_bars)), (q_draft_needs, .inl (C 0, 12, .inl t_draft_needs))]) [6, 0, 7, 1, 2, 3, 4, 5] (by decide) rfl
                exact W.zret (v := (0 : Int32)) (ty := .boolean) hx hb hr rfl (fun t ht hW => ⟨⟨(0 : Int32), (u88_35, u88_36, u88_37, u88_38, u88_39, u88_40, t_draft_items, t_draft_weight, t_draft_gain, t_draft_joy, t_draft_bars, t_draft_needs), rfl, hwp, by rw [ht]; exact hP9, va_K.moved hW.alike hK, hD9⟩, hS.F ht⟩) hS.2.2 dX5_readItem_102
          · have hwp := hwp.2 c71
            refine lv_iconst (v := 0) hx hb dX5_readItem_74 (by decide) ?_
            have hP9 := hP.sub (ws' := [(q, .inr (5, [.ref q_draft, .int u61_23, .int u61_24, .ref q_text, .int t_length, .int u61_25, .int u61_26, .int u61_27, .int u61_28])), (q_draft, .inr (8, [.int t_draft_items, .int t_draft_capacity, .int t_draft_limit, .int t_draft_mustSet, .int t_draft_neverSet, .int t_draft_hand, .ref q_draft_weight, .ref q_draft_gain, .ref q_draft_joy, .ref q_draft_bars, .ref q_draft_needs])), (q_text, .inl (C 1, 600, .inl t_text)), (q_draft_weight, .inl (C 0, 12, .inl t_draft_weight)), (q_draft_gain, .inl (C 0, 12, .inl t_draft_gain)), (q_draft_joy, .inl (C 0, 12, .inl t_draft_joy)), (q_draft_bars, .inl (C 0, 12, .inl t_draft_bars)), (q_draft_needs, .inl (C 0, 12, .inl t_draft_needs))]) [6, 0, 7, 1, 2, 3, 4, 5] rfl
            have hD9 := hD.sub (ws' := [(q, .inr (5, [.ref q_draft, .int u61_23, .int u61_24, .ref q_text, .int t_length, .int u61_25, .int u61_26, .int u61_27, .int u61_28])), (q_draft, .inr (8, [.int t_draft_items, .int t_draft_capacity, .int t_draft_limit, .int t_draft_mustSet, .int t_draft_neverSet, .int t_draft_hand, .ref q_draft_weight, .ref q_draft_gain, .ref q_draft_joy, .ref q_draft_bars, .ref q_draft_needs])), (q_text, .inl (C 1, 600, .inl t_text)), (q_draft_weight, .inl (C 0, 12, .inl t_draft_weight)), (q_draft_gain, .inl (C 0, 12, .inl t_draft_gain)), (q_draft_joy, .inl (C 0, 12, .inl t_draft_joy)), (q_draft_bars, .inl (C 0, 12, .inl t_draft_bars)), (q_draft_needs, .inl (C 0, 12, .inl t_draft_needs))]) [6, 0, 7, 1, 2, 3, 4, 5] (by decide) rfl
            exact W.zret (v := (0 : Int32)) (ty := .boolean) hx hb hr rfl (fun t ht hW => ⟨⟨(0 : Int32), (u61_23, u61_24, u61_25, u61_26, u61_27, u61_28, t_draft_items, t_draft_weight, t_draft_gain, t_draft_joy, t_draft_bars, t_draft_needs), rfl, hwp, by rw [ht]; exact hP9, va_K.moved hW.alike hK, hD9⟩, hS.F ht⟩) hS.2.2 dX5_readItem_75
      · have hwp := hwp.2 c44
        refine lv_iconst (v := 0) hx hb dX5_readItem_47 (by decide) ?_
        have hP9 := hP.sub (ws' := [(q, .inr (5, [.ref q_draft, .int u34_11, .int u34_12, .ref q_text, .int t_length, .int u34_13, .int u34_14, .int u34_15, .int u34_16])), (q_draft, .inr (8, [.int t_draft_items, .int t_draft_capacity, .int t_draft_limit, .int t_draft_mustSet, .int t_draft_neverSet, .int t_draft_hand, .ref q_draft_weight, .ref q_draft_gain, .ref q_draft_joy, .ref q_draft_bars, .ref q_draft_needs])), (q_text, .inl (C 1, 600, .inl t_text)), (q_draft_weight, .inl (C 0, 12, .inl t_draft_weight)), (q_draft_gain, .inl (C 0, 12, .inl t_draft_gain)), (q_draft_joy, .inl (C 0, 12, .inl t_draft_joy)), (q_draft_bars, .inl (C 0, 12, .inl t_draft_bars)), (q_draft_needs, .inl (C 0, 12, .inl t_draft_needs))]) [6, 0, 7, 1, 2, 3, 4, 5] rfl
        have hD9 := hD.sub (ws' := [(q, .inr (5, [.ref q_draft, .int u34_11, .int u34_12, .ref q_text, .int t_length, .int u34_13, .int u34_14, .int u34_15, .int u34_16])), (q_draft, .inr (8, [.int t_draft_items, .int t_draft_capacity, .int t_draft_limit, .int t_draft_mustSet, .int t_draft_neverSet, .int t_draft_hand, .ref q_draft_weight, .ref q_draft_gain, .ref q_draft_joy, .ref q_draft_bars, .ref q_draft_needs])), (q_text, .inl (C 1, 600, .inl t_text)), (q_draft_weight, .inl (C 0, 12, .inl t_draft_weight)), (q_draft_gain, .inl (C 0, 12, .inl t_draft_gain)), (q_draft_joy, .inl (C 0, 12, .inl t_draft_joy)), (q_draft_bars, .inl (C 0, 12, .inl t_draft_bars)), (q_draft_needs, .inl (C 0, 12, .inl t_draft_needs))]) [6, 0, 7, 1, 2, 3, 4, 5] (by decide) rfl
        exact W.zret (v := (0 : Int32)) (ty := .boolean) hx hb hr rfl (fun t ht hW => ⟨⟨(0 : Int32), (u34_11, u34_12, u34_13, u34_14, u34_15, u34_16, t_draft_items, t_draft_weight, t_draft_gain, t_draft_joy, t_draft_bars, t_draft_needs), rfl, hwp, by rw [ht]; exact hP9, va_K.moved hW.alike hK, hD9⟩, hS.F ht⟩) hS.2.2 dX5_readItem_48
  · have hwp := hwp.2 c9
    refine lv_aload_n hx hb dX5_readItem_12 rfl (lv_at hl 0 rfl) ?_
    refine lv_iconst (v := 4) hx hb dX5_readItem_13 (by decide) ?_
    have hPc := hP.sub (ws' := [(q, .inr (5, [.ref q_draft, .int t_code, .int t_place, .ref q_text, .int t_length, .int t_kind, .int t_start, .int t_next, .int t_value]))]) [0] rfl
    have hDc := hD.sub (ws' := [(q, .inr (5, [.ref q_draft, .int t_code, .int t_place, .ref q_text, .int t_length, .int t_kind, .int t_start, .int t_next, .int t_value]))]) [0] (by decide) rfl
    have hFc := va_free (wc := [(q, .inr (5, [.ref q_draft, .int t_code, .int t_place, .ref q_text, .int t_length, .int t_kind, .int t_start, .int t_next, .int t_value]))]) hD hS hA [0] rfl
    refine va_calli (va_runV (As := [.int (4 : Int32)]) (rest := []) ⟨hx, hb, hml, hown, hts⟩ (met_X5_fail l D C q q_draft q_text (4 : Int32) t_code t_place t_length t_kind t_start t_next t_value H.size _ hwp) (cwV 1 hts gc_X5_90 rfl rfl rfl (by decide +kernel) ⟨Nat.le_of_ble_eq_true rfl, Nat.le_of_ble_eq_true rfl⟩) ⟨fun a U g mk q => by obtain ⟨q0, q1, qP, qK, qD⟩ := q; exact ⟨q0, q1, qP, va_K.moved (u := U) (U := U.calling g mk a) (Vm.Alike.refl U.vm) qK, qD⟩, va_recv hK hPc (ci := 5) (q0 := 0) rfl rfl, fun U hU hW => ⟨rfl, by rw [hU], by rw [hU]; exact hPc, va_K.moved hW.alike hK, hDc.weaken (fun _ _ _ _ => trivial)⟩⟩ rfl rfl hl.1 rfl (lv_room (Nat.le_of_ble_eq_true rfl)) dX5_readItem_14 ⟨Nat.zero_le _, Nat.zero_le _⟩) hS (fun q _ h => hFc q h) hFc (fun r14 u t H1 locs ht hvm hwp hB hz1 hk1 hS => ?_)
    obtain ⟨u14_53, u14_54⟩ := u
    obtain ⟨hP1, -, hD1⟩ := hB
    rw [ht] at hP1
    obtain ⟨hP, hD⟩ := va_join (wr := [(q_draft, .inr (8, [.int t_draft_items, .int t_draft_capacity, .int t_draft_limit, .int t_draft_mustSet, .int t_draft_neverSet, .int t_draft_hand, .ref q_draft_weight, .ref q_draft_gain, .ref q_draft_joy, .ref q_draft_bars, .ref q_draft_needs])), (q_text, .inl (C 1, 600, .inl t_text)), (q_draft_weight, .inl (C 0, 12, .inl t_draft_weight)), (q_draft_gain, .inl (C 0, 12, .inl t_draft_gain)), (q_draft_joy, .inl (C 0, 12, .inl t_draft_joy)), (q_draft_bars, .inl (C 0, 12, .inl t_draft_bars)), (q_draft_needs, .inl (C 0, 12, .inl t_draft_needs))]) (w1 := [(q, .inr (5, [.ref q_draft, .int u14_53, .int u14_54, .ref q_text, .int t_length, .int t_kind, .int t_start, .int t_next, .int t_value]))]) hP hD [0] [1, 2, 3, 4, 5, 6, 7] rfl rfl (by decide) (by decide) hk1 hFc hP1 hD1
    generalize H1 = H at hP hS ⊢
    have hP : va_P D vwCl [(q_draft, .inr (8, [.int t_draft_items, .int t_draft_capacity, .int t_draft_limit, .int t_draft_mustSet, .int t_draft_neverSet, .int t_draft_hand, .ref q_draft_weight, .ref q_draft_gain, .ref q_draft_joy, .ref q_draft_bars, .ref q_draft_needs])), (q_text, .inl (C 1, 600, .inl t_text)), (q_draft_weight, .inl (C 0, 12, .inl t_draft_weight)), (q_draft_gain, .inl (C 0, 12, .inl t_draft_gain)), (q_draft_joy, .inl (C 0, 12, .inl t_draft_joy)), (q_draft_bars, .inl (C 0, 12, .inl t_draft_bars)), (q_draft_needs, .inl (C 0, 12, .inl t_draft_needs)), (q, .inr (5, [.ref q_draft, .int u14_53, .int u14_54, .ref q_text, .int t_length, .int t_kind, .int t_start, .int t_next, .int t_value]))] H := hP
    have hD : va_D A [(q_draft, .inr (8, [.int t_draft_items, .int t_draft_capacity, .int t_draft_limit, .int t_draft_mustSet, .int t_draft_neverSet, .int t_draft_hand, .ref q_draft_weight, .ref q_draft_gain, .ref q_draft_joy, .ref q_draft_bars, .ref q_draft_needs])), (q_text, .inl (C 1, 600, .inl t_text)), (q_draft_weight, .inl (C 0, 12, .inl t_draft_weight)), (q_draft_gain, .inl (C 0, 12, .inl t_draft_gain)), (q_draft_joy, .inl (C 0, 12, .inl t_draft_joy)), (q_draft_bars, .inl (C 0, 12, .inl t_draft_bars)), (q_draft_needs, .inl (C 0, 12, .inl t_draft_needs)), (q, .inr (5, [.ref q_draft, .int u14_53, .int u14_54, .ref q_text, .int t_length, .int t_kind, .int t_start, .int t_next, .int t_value]))] := hD
    have hP9 := hP.sub (ws' := [(q, .inr (5, [.ref q_draft, .int u14_53, .int u14_54, .ref q_text, .int t_length, .int t_kind, .int t_start, .int t_next, .int t_value])), (q_draft, .inr (8, [.int t_draft_items, .int t_draft_capacity, .int t_draft_limit, .int t_draft_mustSet, .int t_draft_neverSet, .int t_draft_hand, .ref q_draft_weight, .ref q_draft_gain, .ref q_draft_joy, .ref q_draft_bars, .ref q_draft_needs])), (q_text, .inl (C 1, 600, .inl t_text)), (q_draft_weight, .inl (C 0, 12, .inl t_draft_weight)), (q_draft_gain, .inl (C 0, 12, .inl t_draft_gain)), (q_draft_joy, .inl (C 0, 12, .inl t_draft_joy)), (q_draft_bars, .inl (C 0, 12, .inl t_draft_bars)), (q_draft_needs, .inl (C 0, 12, .inl t_draft_needs))]) [7, 0, 1, 2, 3, 4, 5, 6] rfl
    have hD9 := hD.sub (ws' := [(q, .inr (5, [.ref q_draft, .int u14_53, .int u14_54, .ref q_text, .int t_length, .int t_kind, .int t_start, .int t_next, .int t_value])), (q_draft, .inr (8, [.int t_draft_items, .int t_draft_capacity, .int t_draft_limit, .int t_draft_mustSet, .int t_draft_neverSet, .int t_draft_hand, .ref q_draft_weight, .ref q_draft_gain, .ref q_draft_joy, .ref q_draft_bars, .ref q_draft_needs])), (q_text, .inl (C 1, 600, .inl t_text)), (q_draft_weight, .inl (C 0, 12, .inl t_draft_weight)), (q_draft_gain, .inl (C 0, 12, .inl t_draft_gain)), (q_draft_joy, .inl (C 0, 12, .inl t_draft_joy)), (q_draft_bars, .inl (C 0, 12, .inl t_draft_bars)), (q_draft_needs, .inl (C 0, 12, .inl t_draft_needs))]) [7, 0, 1, 2, 3, 4, 5, 6] (by decide) rfl
    obtain ⟨hn9, hwp⟩ := hwp
    exact W.zret (v := r14) (ty := .boolean) hx hb hr hn9 (fun t ht hW => ⟨⟨r14, (u14_53, u14_54, t_kind, t_start, t_next, t_value, t_draft_items, t_draft_weight, t_draft_gain, t_draft_joy, t_draft_bars, t_draft_needs), rfl, hwp, by rw [ht]; exact hP9, va_K.moved hW.alike hK, hD9⟩, hS.F ht⟩) hS.2.2 dX5_readItem_17
