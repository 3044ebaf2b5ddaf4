abbrev ws_J3_checkIndex_8e157 : List Cond := .code yJ3_checkIndex_8e157 cJ3_checkIndex_8e157 3 (some .int) :: WALL
abbrev rm_J3_checkIndex_8e157 : Room := { frames := 0, cells := 0, slots := 0, locals := 0 }
def wp_J3_checkIndex_8e157 (p0 : Int32) (p1 : Int32) (Q : Int32 → Prop) : Prop := (p0 < 0 → (False)) ∧ (¬ p0 < 0 → ((p0 < p1 → (Q p0)) ∧ (¬ p0 < p1 → (False))))
abbrev w_J3_checkIndex_8e157 (C : Nat → ClassId) : va_W := []
abbrev q_J3_checkIndex_8e157 (D : va_G) (C : Nat → ClassId) (Q : Int32 → Prop) (A : Nat → Prop) : Array Value → State → Outcome → State → Prop := va_Qi (fun (r : Int32) (u : Unit) => Q r) (fun (u : Unit) (t : State) => va_P D vwCl (w_J3_checkIndex_8e157 C ) t.heap ∧ va_K D vwCl (tyL C) t ∧ va_D A (w_J3_checkIndex_8e157 C )) A
set_option maxHeartbeats 4000000 in
set_option maxRecDepth 100000 in
theorem met_J3_checkIndex_8e157 (l : Launch) (D : va_G) (C : Nat → ClassId) (p0 : Int32) (p1 : Int32) (p2 : Value) (hany : p2 = .null ∨ ∃ t : Nat, p2 = .ref t) (sz : Nat) (Q : Int32 → Prop) (hwp : wp_J3_checkIndex_8e157 p0 p1 Q) : Met l yJ3_checkIndex_8e157 ws_J3_checkIndex_8e157 rm_J3_checkIndex_8e157 (va_Pc [.int p0, .int p1, p2] (fun U => U.heap.size = sz ∧ va_P D vwCl (w_J3_checkIndex_8e157 C ) U.heap ∧ va_K D vwCl (tyL C) U ∧ va_D (fun _ => True) (w_J3_checkIndex_8e157 C ))) (q_J3_checkIndex_8e157 D C  Q (va_A (w_J3_checkIndex_8e157 C ) sz)) 0 0 (va_A (w_J3_checkIndex_8e157 C ) sz) := by
  rcases hany with rfl | ⟨tz, rfl⟩
  · refine Met.ofW (cc := cJ3_checkIndex_8e157) (maxL := 3) (ret := (some .int)) (by decide) rfl ?_
    intro p e s m args below meth c s₁ B hml hv
    obtain ⟨rfl, hsz, hP, hK, hD0⟩ := hv
    have hx := B.exec
    have hb := B.bytes
    have hr := B.returns
    have hts : ∀ w ∈ WALL, w.before _ s = true := fun w h => atoms_spec (ws := ws_J3_checkIndex_8e157) B.pre w (List.mem_cons_of_mem _ h)
    have hown : s.vm.findClass RJ3 = some m.cls := findClass_of_methodNamed B.named
    have hlocks := B.notSynchronized
    subst hsz
    have hD := hD0.self (sz := s.heap.size)
    generalize hAe : va_A (w_J3_checkIndex_8e157 C ) s.heap.size = A at hD ⊢
    have hA : ∀ q : Nat, s.heap.size ≤ q → A q := fun q h => by rw [← hAe]; exact Or.inr h
    have hS : va_S A s.heap s.heap [] := va_S.rf
    have hl := lv_entry ([.int p0, .int p1, .null]) (n := 3) (Nat.le_of_ble_eq_true rfl)
    rw [lg_entry_eq]
    generalize (lg_sl ([.int p0, .int p1, .null]) ++ List.replicate (3 - (lg_sl ([.int p0, .int p1, .null])).length) Slot.unset).toArray = ls at hl ⊢
    have hl : lv_has ls 3 [(0, .int p0), (1, .int p1), (2, .null)] := hl
    unfold wp_J3_checkIndex_8e157 at hwp
    obtain ⟨H, hH⟩ : ∃ H, H = s.heap := ⟨_, rfl⟩
    obtain ⟨locs, hlo⟩ : ∃ z : List Loc, z = [] := ⟨_, rfl⟩
    have hP : va_P D vwCl [] H := by rw [hH]; exact hP
    have hD : va_D A [] := hD
    have hS : va_S A s.heap H locs := by rw [hH, hlo]; exact hS
    suffices K : W p l e (headSpec ws_J3_checkIndex_8e157 rm_J3_checkIndex_8e157).room s m ([.int p0, .int p1, .null] : List Value).toArray below meth c H locs 0 0 (MQ below (q_J3_checkIndex_8e157 D C Q A) ([.int p0, .int p1, .null] : List Value).toArray s 0 0 A) (F0 m 0 ls []) from by rw [hH, hlo] at K; exact K
    refine lv_iload_n hx hb dJ3_checkIndex_8e157_0 rfl (lv_at hl 0 rfl) ?_
    refine lv_if_lt (tgt := 9) hx hb dJ3_checkIndex_8e157_1 (by decide) (fun c1 => ?_) (fun c1 => ?_)
    · have hwp := hwp.1 c1
      exact hwp.elim
    · have hwp := hwp.2 c1
      refine lv_iload_n hx hb dJ3_checkIndex_8e157_4 rfl (lv_at hl 0 rfl) ?_
      refine lv_iload_n hx hb dJ3_checkIndex_8e157_5 rfl (lv_at hl 1 rfl) ?_
      refine lv_icmp_lt (tgt := 16) hx hb dJ3_checkIndex_8e157_6 (by decide) (fun c6 => ?_) (fun c6 => ?_)
      · have hwp := hwp.1 c6
        refine lv_iload_n hx hb dJ3_checkIndex_8e157_16 rfl (lv_at hl 0 rfl) ?_
        have hP9 := hP.sub (ws' := []) [] rfl
        have hD9 := hD.sub (ws' := []) [] (by decide) rfl
        exact W.iret (v := p0) hx hb hr (fun t ht hW => ⟨⟨p0, (), rfl, hwp, by rw [ht]; exact hP9, va_K.moved hW.alike hK, hD9⟩, hS.F ht⟩) hS.2.2 dJ3_checkIndex_8e157_17
      · have hwp := hwp.2 c6
        exact hwp.elim
  · refine Met.ofW (cc := cJ3_checkIndex_8e157) (maxL := 3) (ret := (some .int)) (by decide) rfl ?_
    intro p e s m args below meth c s₁ B hml hv
    obtain ⟨rfl, hsz, hP, hK, hD0⟩ := hv
    have hx := B.exec
    have hb := B.bytes
    have hr := B.returns
    have hts : ∀ w ∈ WALL, w.before _ s = true := fun w h => atoms_spec (ws := ws_J3_checkIndex_8e157) B.pre w (List.mem_cons_of_mem _ h)
    have hown : s.vm.findClass RJ3 = some m.cls := findClass_of_methodNamed B.named
    have hlocks := B.notSynchronized
    subst hsz
    have hD := hD0.self (sz := s.heap.size)
    generalize hAe : va_A (w_J3_checkIndex_8e157 C ) s.heap.size = A at hD ⊢
    have hA : ∀ q : Nat, s.heap.size ≤ q → A q := fun q h => by rw [← hAe]; exact Or.inr h
    have hS : va_S A s.heap s.heap [] := va_S.rf
    have hl := lv_entry ([.int p0, .int p1, .ref tz]) (n := 3) (Nat.le_of_ble_eq_true rfl)
    rw [lg_entry_eq]
    generalize (lg_sl ([.int p0, .int p1, .ref tz]) ++ List.replicate (3 - (lg_sl ([.int p0, .int p1, .ref tz])).length) Slot.unset).toArray = ls at hl ⊢
    have hl : lv_has ls 3 [(0, .int p0), (1, .int p1), (2, .ref tz)] := hl
    unfold wp_J3_checkIndex_8e157 at hwp
    obtain ⟨H, hH⟩ : ∃ H, H = s.heap := ⟨_, rfl⟩
    obtain ⟨locs, hlo⟩ : ∃ z : List Loc, z = [] := ⟨_, rfl⟩
    have hP : va_P D vwCl [] H := by rw [hH]; exact hP
    have hD : va_D A [] := hD
    have hS : va_S A s.heap H locs := by rw [hH, hlo]; exact hS
    suffices K : W p l e (headSpec ws_J3_checkIndex_8e157 rm_J3_checkIndex_8e157).room s m ([.int p0, .int p1, .ref tz] : List Value).toArray below meth c H locs 0 0 (MQ below (q_J3_checkIndex_8e157 D C Q A) ([.int p0, .int p1, .ref tz] : List Value).toArray s 0 0 A) (F0 m 0 ls []) from by rw [hH, hlo] at K; exact K
    refine lv_iload_n hx hb dJ3_checkIndex_8e157_0 rfl (lv_at hl 0 rfl) ?_
    refine lv_if_lt (tgt := 9) hx hb dJ3_checkIndex_8e157_1 (by decide) (fun c1 => ?_) (fun c1 => ?_)
    · have hwp := hwp.1 c1
      exact hwp.elim
    · have hwp := hwp.2 c1
      refine lv_iload_n hx hb dJ3_checkIndex_8e157_4 rfl (lv_at hl 0 rfl) ?_
      refine lv_iload_n hx hb dJ3_checkIndex_8e157_5 rfl (lv_at hl 1 rfl) ?_
      refine lv_icmp_lt (tgt := 16) hx hb dJ3_checkIndex_8e157_6 (by decide) (fun c6 => ?_) (fun c6 => ?_)
      · have hwp := hwp.1 c6
        refine lv_iload_n hx hb dJ3_checkIndex_8e157_16 rfl (lv_at hl 0 rfl) ?_
        have hP9 := hP.sub (ws' := []) [] rfl
        have hD9 := hD.sub (ws' := []) [] (by decide) rfl
        exact W.iret (v := p0) hx hb hr (fun t ht hW => ⟨⟨p0, (), rfl, hwp, by rw [ht]; exact hP9, va_K.moved hW.alike hK, hD9⟩, hS.F ht⟩) hS.2.2 dJ3_checkIndex_8e157_17
      · have hwp := hwp.2 c6
        exact hwp.elim
abbrev ws_J0_coder_7d493 : List Cond := .code yJ0_coder_7d493 cJ0_coder_7d493 1 (some .byte) :: WALL
abbrev rm_J0_coder_7d493 : Room := { frames := 0, cells := 0, slots := 0, locals := 0 }
def wp_J0_coder_7d493 (t_bs : List Int32) (Q : Int32 → Prop) : Prop := Q (0 : Int32)
abbrev w_J0_coder_7d493 (C : Nat → ClassId) (q : Nat) (t_bs : List Int32) : va_W := []
abbrev q_J0_coder_7d493 (D : va_G) (C : Nat → ClassId) (q : Nat) (t_bs : List Int32) (Q : Int32 → Prop) (A : Nat → Prop) : Array Value → State → Outcome → State → Prop := va_Qi (fun (r : Int32) (u : Unit) => Q r) (fun (u : Unit) (t : State) => va_P D vwCl (w_J0_coder_7d493 C q t_bs) t.heap ∧ va_K D vwCl (tyL C) t ∧ va_D A (w_J0_coder_7d493 C q t_bs)) A
set_option maxHeartbeats 4000000 in
set_option maxRecDepth 100000 in
theorem met_J0_coder_7d493 (l : Launch) (hst : l.stackTraces = false) (D : va_G) (C : Nat → ClassId) (q : Nat) (t_bs : List Int32) (sz : Nat) (Q : Int32 → Prop) (hwp : wp_J0_coder_7d493 t_bs Q) : Met l yJ0_coder_7d493 ws_J0_coder_7d493 rm_J0_coder_7d493 (va_Pc [.ref q] (fun U => U.heap.size = sz ∧ va_P D vwCl (w_J0_coder_7d493 C q t_bs) U.heap ∧ va_K D vwCl (tyL C) U ∧ va_D (fun _ => True) (w_J0_coder_7d493 C q t_bs) ∧ TX (va_A (w_J0_coder_7d493 C q t_bs) sz) U U.heap ∧ StrC t_bs q (va_A (w_J0_coder_7d493 C q t_bs) sz) U U.heap)) (q_J0_coder_7d493 D C q t_bs Q (va_A (w_J0_coder_7d493 C q t_bs) sz)) 0 0 (va_A (w_J0_coder_7d493 C q t_bs) sz) := by
  refine Met.ofW (cc := cJ0_coder_7d493) (maxL := 1) (ret := (some .byte)) (by decide) rfl ?_
  intro p e s m args below meth c s₁ B hml hv
  obtain ⟨rfl, hsz, hP, hK, hD0, hT, hs_q⟩ := hv
  have hx := B.exec
  have hb := B.bytes
  have hr := B.returns
  have hts : ∀ w ∈ WALL, w.before _ s = true := fun w h => atoms_spec (ws := ws_J0_coder_7d493) B.pre w (List.mem_cons_of_mem _ h)
  have hown : s.vm.findClass RJ0 = some m.cls := findClass_of_methodNamed B.named
  have hlocks := B.notSynchronized
  subst hsz
  have hD := hD0.self (sz := s.heap.size)
  generalize hAe : va_A (w_J0_coder_7d493 C q t_bs) s.heap.size = A at hD ⊢ hT hs_q
  have hA : ∀ q : Nat, s.heap.size ≤ q → A q := fun q h => by rw [← hAe]; exact Or.inr h
  have hS : va_S A s.heap s.heap [] := va_S.rf
  have hl := lv_entry ([.ref q]) (n := 1) (Nat.le_of_ble_eq_true rfl)
  rw [lg_entry_eq]
  generalize (lg_sl ([.ref q]) ++ List.replicate (1 - (lg_sl ([.ref q])).length) Slot.unset).toArray = ls at hl ⊢
  have hl : lv_has ls 1 [(0, .ref q)] := hl
  unfold wp_J0_coder_7d493 at hwp
  obtain ⟨H, hH⟩ : ∃ H, H = s.heap := ⟨_, rfl⟩
  obtain ⟨locs, hlo⟩ : ∃ z : List Loc, z = [] := ⟨_, rfl⟩
  have hP : va_P D vwCl [] H := by rw [hH]; exact hP
  have hD : va_D A [] := hD
  have hS : va_S A s.heap H locs := by rw [hH, hlo]; exact hS
  suffices K : W p l e (headSpec ws_J0_coder_7d493 rm_J0_coder_7d493).room s m ([.ref q] : List Value).toArray below meth c H locs 0 0 (MQ below (q_J0_coder_7d493 D C q t_bs Q A) ([.ref q] : List Value).toArray s 0 0 A) (F0 m 0 ls []) from by rw [hH, hlo] at K; exact K
  refine va_gets hx hb hT.2.2.2.2.2.2.1 hS hown (hts (.fieldLink RJ0 38 "java/lang/String" "COMPACT_STRINGS" "Z") wd_601) (fun _ h9 => h9) dJ0_coder_7d493_0 ?_
  refine lv_if_eq (tgt := 13) hx hb dJ0_coder_7d493_3 (by decide) (fun c3 => ?_) (fun c3 => ?_)
  · exact absurd c3 (by decide)
  · refine lv_aload_n hx hb dJ0_coder_7d493_6 rfl (lv_at hl 0 rfl) ?_
    obtain ⟨q_v, ho_q, hc_q, hv_q, ht_q_v⟩ := id hs_q
    refine vk_getf hx hb hc_q hS hown (hts (.fieldLink RJ0 15 "java/lang/String" "coder" "B") wd_2234) (fun _ h9 => h9) dJ0_coder_7d493_7 ?_
    refine lv_goto (tgt := 14) hx hb dJ0_coder_7d493_10 (by decide) ?_
    have hP9 := hP.sub (ws' := []) [] rfl
    have hD9 := hD.sub (ws' := []) [] (by decide) rfl
    exact W.zret (v := (0 : Int32)) (ty := .byte) hx hb hr rfl (fun t ht hW => ⟨⟨(0 : Int32), (), rfl, hwp, by rw [ht]; exact hP9, va_K.moved hW.alike hK, hD9⟩, hS.F ht⟩) hS.2.2 dJ0_coder_7d493_14
abbrev ws_J0_length_8abf5 : List Cond := .code yJ0_length_8abf5 cJ0_length_8abf5 1 (some .int) :: WALL
theorem gc_J0_335 : GoodIn WALL (wsV RJ0 335 RJ0 yJ0_coder_7d493 ws_J0_coder_7d493) := gc_v wd_597 wd_598 wd_599 wd_132 wd_600
abbrev rm_J0_length_8abf5 : Room := { frames := 1, cells := 0, slots := 0, locals := 20 }
def wp_J0_length_8abf5 (t_bs : List Int32) (Q : Int32 → Prop) : Prop := Q ((Int32.ofNat t_bs.length) >>> ((0 : Int32) &&& 31))
abbrev w_J0_length_8abf5 (C : Nat → ClassId) (q : Nat) (t_bs : List Int32) : va_W := []
abbrev q_J0_length_8abf5 (D : va_G) (C : Nat → ClassId) (q : Nat) (t_bs : List Int32) (Q : Int32 → Prop) (A : Nat → Prop) : Array Value → State → Outcome → State → Prop := va_Qi (fun (r : Int32) (u : Unit) => Q r) (fun (u : Unit) (t : State) => va_P D vwCl (w_J0_length_8abf5 C q t_bs) t.heap ∧ va_K D vwCl (tyL C) t ∧ va_D A (w_J0_length_8abf5 C q t_bs)) A
set_option maxHeartbeats 4000000 in
set_option maxRecDepth 100000 in
theorem met_J0_length_8abf5 (l : Launch) (hst : l.stackTraces = false) (D : va_G) (C : Nat → ClassId) (q : Nat) (t_bs : List Int32) (sz : Nat) (Q : Int32 → Prop) (hwp : wp_J0_length_8abf5 t_bs Q) : Met l yJ0_length_8abf5 ws_J0_length_8abf5 rm_J0_length_8abf5 (va_Pc [.ref q] (fun U => U.heap.size = sz ∧ va_P D vwCl (w_J0_length_8abf5 C q t_bs) U.heap ∧ va_K D vwCl (tyL C) U ∧ va_D (fun _ => True) (w_J0_length_8abf5 C q t_bs) ∧ TX (va_A (w_J0_length_8abf5 C q t_bs) sz) U U.heap ∧ StrC t_bs q (va_A (w_J0_length_8abf5 C q t_bs) sz) U U.heap)) (q_J0_length_8abf5 D C q t_bs Q (va_A (w_J0_length_8abf5 C q t_bs) sz)) 0 0 (va_A (w_J0_length_8abf5 C q t_bs) sz) := by
  refine Met.ofW (cc := cJ0_length_8abf5) (maxL := 1) (ret := (some .int)) (by decide) rfl ?_
  intro p e s m args below meth c s₁ B hml hv
  obtain ⟨rfl, hsz, hP, hK, hD0, hT, hs_q⟩ := hv
  have hx := B.exec
  have hb := B.bytes
  have hr := B.returns
  have hts : ∀ w ∈ WALL, w.before _ s = true := fun w h => atoms_spec (ws := ws_J0_length_8abf5) B.pre w (List.mem_cons_of_mem _ h)
  have hown : s.vm.findClass RJ0 = some m.cls := findClass_of_methodNamed B.named
  have hlocks := B.notSynchronized
  subst hsz
  have hD := hD0.self (sz := s.heap.size)
  generalize hAe : va_A (w_J0_length_8abf5 C q t_bs) s.heap.size = A at hD ⊢ hT hs_q
  have hA : ∀ q : Nat, s.heap.size ≤ q → A q := fun q h => by rw [← hAe]; exact Or.inr h
  have hS : va_S A s.heap s.heap [] := va_S.rf
  have hl := lv_entry ([.ref q]) (n := 1) (Nat.le_of_ble_eq_true rfl)
  rw [lg_entry_eq]
  generalize (lg_sl ([.ref q]) ++ List.replicate (1 - (lg_sl ([.ref q])).length) Slot.unset).toArray = ls at hl ⊢
  have hl : lv_has ls 1 [(0, .ref q)] := hl
  unfold wp_J0_length_8abf5 at hwp
  obtain ⟨H, hH⟩ : ∃ H, H = s.heap := ⟨_, rfl⟩
  obtain ⟨locs, hlo⟩ : ∃ z : List Loc, z = [] := ⟨_, rfl⟩
  have hP : va_P D vwCl [] H := by rw [hH]; exact hP
  have hD : va_D A [] := hD
  have hS : va_S A s.heap H locs := by rw [hH, hlo]; exact hS
  suffices K : W p l e (headSpec ws_J0_length_8abf5 rm_J0_length_8abf5).room s m ([.ref q] : List Value).toArray below meth c H locs 0 0 (MQ below (q_J0_length_8abf5 D C q t_bs Q A) ([.ref q] : List Value).toArray s 0 0 A) (F0 m 0 ls []) from by rw [hH, hlo] at K; exact K
  refine lv_aload_n hx hb dJ0_length_8abf5_0 rfl (lv_at hl 0 rfl) ?_
  obtain ⟨q_v, ho_q, hc_q, hv_q, ht_q_v⟩ := id hs_q
  refine vk_getf hx hb hv_q hS hown (hts (.fieldLink RJ0 9 "java/lang/String" "value" "[B") wd_2233) (fun _ h9 => h9) dJ0_length_8abf5_1 ?_
  refine va_tlen (v := Int32.ofNat t_bs.length) hx hb ht_q_v hS rfl dJ0_length_8abf5_4 ?_
  refine lv_aload_n hx hb dJ0_length_8abf5_5 rfl (lv_at hl 0 rfl) ?_
  have hPc := hP.sub (ws' := []) [] rfl
  have hDc := hD.sub (ws' := []) [] (by decide) rfl
  have hFc := va_free (wc := []) hD hS hA [] rfl
  refine va_calli (va_runV (As := []) (rest := [.int (Int32.ofNat t_bs.length)]) ⟨hx, hb, hml, hown, hts⟩ (met_J0_coder_7d493 l hst D C q t_bs H.size (fun r => r = (0 : Int32)) rfl) (cwV 0 hts gc_J0_335 rfl rfl rfl (by decide +kernel) ⟨Nat.le_of_ble_eq_true rfl, Nat.le_of_ble_eq_true rfl⟩) ⟨fun a U g mk q => by obtain ⟨q0, q1, qP, qK, qD, qT, qS_q⟩ := q; exact ⟨q0, q1, qP, va_K.moved (u := U) (U := U.calling g mk a) (Vm.Alike.refl U.vm) qK, qD, qT.mv (U := U.calling g mk a) (State.WarmedH.refl U), qS_q.moved (U := U.calling g mk a) (Vm.Alike.refl U.vm)⟩, hs_q.recv hS, fun U hU hW => ⟨rfl, by rw [hU], by rw [hU]; exact hPc, va_K.moved hW.alike hK, hDc.weaken (fun _ _ _ _ => trivial), hT.call hS hFc hU hW, hs_q.call hS hFc hU hW⟩⟩ rfl rfl hl.1 rfl (lv_room (Nat.le_of_ble_eq_true rfl)) dJ0_length_8abf5_6 ⟨Nat.zero_le _, Nat.zero_le _⟩) hS (fun q _ h => hFc q h) hFc (fun r6 u t H1 locs ht hvm hwc hB hz1 hk1 hS => ?_)
  obtain rfl := hwc
  obtain ⟨hP1, -, hD1⟩ := hB
  rw [ht] at hP1
  obtain ⟨hP, hD⟩ := va_join (wr := []) (w1 := []) hP hD [] [] rfl rfl (by decide) (by decide) hk1 hFc hP1 hD1
  generalize H1 = H at hP hS ⊢
  have hP : va_P D vwCl [] H := hP
  have hD : va_D A [] := hD
  refine lv_ishr hx hb dJ0_length_8abf5_9 ?_
  have hP9 := hP.sub (ws' := []) [] rfl
  have hD9 := hD.sub (ws' := []) [] (by decide) rfl
  exact W.iret (v := (Int32.ofNat t_bs.length) >>> ((0 : Int32) &&& 31)) hx hb hr (fun t ht hW => ⟨⟨(Int32.ofNat t_bs.length) >>> ((0 : Int32) &&& 31), (), rfl, hwp, by rw [ht]; exact hP9, va_K.moved hW.alike hK, hD9⟩, hS.F ht⟩) hS.2.2 dJ0_length_8abf5_10
abbrev ws_J0_isLatin1_aae02 : List Cond := .code yJ0_isLatin1_aae02 cJ0_isLatin1_aae02 1 (some .boolean) :: WALL
abbrev rm_J0_isLatin1_aae02 : Room := { frames := 0, cells := 0, slots := 0, locals := 0 }
def wp_J0_isLatin1_aae02 (t_bs : List Int32) (Q : Int32 → Prop) : Prop := Q (1 : Int32)
abbrev w_J0_isLatin1_aae02 (C : Nat → ClassId) (q : Nat) (t_bs : List Int32) : va_W := []
abbrev q_J0_isLatin1_aae02 (D : va_G) (C : Nat → ClassId) (q : Nat) (t_bs : List Int32) (Q : Int32 → Prop) (A : Nat → Prop) : Array Value → State → Outcome → State → Prop := va_Qi (fun (r : Int32) (u : Unit) => Q r) (fun (u : Unit) (t : State) => va_P D vwCl (w_J0_isLatin1_aae02 C q t_bs) t.heap ∧ va_K D vwCl (tyL C) t ∧ va_D A (w_J0_isLatin1_aae02 C q t_bs)) A
set_option maxHeartbeats 4000000 in
set_option maxRecDepth 100000 in
theorem met_J0_isLatin1_aae02 (l : Launch) (hst : l.stackTraces = false) (D : va_G) (C : Nat → ClassId) (q : Nat) (t_bs : List Int32) (sz : Nat) (Q : Int32 → Prop) (hwp : wp_J0_isLatin1_aae02 t_bs Q) : Met l yJ0_isLatin1_aae02 ws_J0_isLatin1_aae02 rm_J0_isLatin1_aae02 (va_Pc [.ref q] (fun U => U.heap.size = sz ∧ va_P D vwCl (w_J0_isLatin1_aae02 C q t_bs) U.heap ∧ va_K D vwCl (tyL C) U ∧ va_D (fun _ => True) (w_J0_isLatin1_aae02 C q t_bs) ∧ TX (va_A (w_J0_isLatin1_aae02 C q t_bs) sz) U U.heap ∧ StrC t_bs q (va_A (w_J0_isLatin1_aae02 C q t_bs) sz) U U.heap)) (q_J0_isLatin1_aae02 D C q t_bs Q (va_A (w_J0_isLatin1_aae02 C q t_bs) sz)) 0 0 (va_A (w_J0_isLatin1_aae02 C q t_bs) sz) := by
  refine Met.ofW (cc := cJ0_isLatin1_aae02) (maxL := 1) (ret := (some .boolean)) (by decide) rfl ?_
  intro p e s m args below meth c s₁ B hml hv
  obtain ⟨rfl, hsz, hP, hK, hD0, hT, hs_q⟩ := hv
  have hx := B.exec
  have hb := B.bytes
  have hr := B.returns
  have hts : ∀ w ∈ WALL, w.before _ s = true := fun w h => atoms_spec (ws := ws_J0_isLatin1_aae02) B.pre w (List.mem_cons_of_mem _ h)
  have hown : s.vm.findClass RJ0 = some m.cls := findClass_of_methodNamed B.named
  have hlocks := B.notSynchronized
  subst hsz
  have hD := hD0.self (sz := s.heap.size)
  generalize hAe : va_A (w_J0_isLatin1_aae02 C q t_bs) s.heap.size = A at hD ⊢ hT hs_q
  have hA : ∀ q : Nat, s.heap.size ≤ q → A q := fun q h => by rw [← hAe]; exact Or.inr h
  have hS : va_S A s.heap s.heap [] := va_S.rf
  have hl := lv_entry ([.ref q]) (n := 1) (Nat.le_of_ble_eq_true rfl)
  rw [lg_entry_eq]
  generalize (lg_sl ([.ref q]) ++ List.replicate (1 - (lg_sl ([.ref q])).length) Slot.unset).toArray = ls at hl ⊢
  have hl : lv_has ls 1 [(0, .ref q)] := hl
  unfold wp_J0_isLatin1_aae02 at hwp
  obtain ⟨H, hH⟩ : ∃ H, H = s.heap := ⟨_, rfl⟩
  obtain ⟨locs, hlo⟩ : ∃ z : List Loc, z = [] := ⟨_, rfl⟩
  have hP : va_P D vwCl [] H := by rw [hH]; exact hP
  have hD : va_D A [] := hD
  have hS : va_S A s.heap H locs := by rw [hH, hlo]; exact hS
  suffices K : W p l e (headSpec ws_J0_isLatin1_aae02 rm_J0_isLatin1_aae02).room s m ([.ref q] : List Value).toArray below meth c H locs 0 0 (MQ below (q_J0_isLatin1_aae02 D C q t_bs Q A) ([.ref q] : List Value).toArray s 0 0 A) (F0 m 0 ls []) from by rw [hH, hlo] at K; exact K
  refine va_gets hx hb hT.2.2.2.2.2.2.1 hS hown (hts (.fieldLink RJ0 38 "java/lang/String" "COMPACT_STRINGS" "Z") wd_601) (fun _ h9 => h9) dJ0_isLatin1_aae02_0 ?_
  refine lv_if_eq (tgt := 17) hx hb dJ0_isLatin1_aae02_3 (by decide) (fun c3 => ?_) (fun c3 => ?_)
  · exact absurd c3 (by decide)
  · refine lv_aload_n hx hb dJ0_isLatin1_aae02_6 rfl (lv_at hl 0 rfl) ?_
    obtain ⟨q_v, ho_q, hc_q, hv_q, ht_q_v⟩ := id hs_q
    refine vk_getf hx hb hc_q hS hown (hts (.fieldLink RJ0 15 "java/lang/String" "coder" "B") wd_2234) (fun _ h9 => h9) dJ0_isLatin1_aae02_7 ?_
    refine lv_if_ne (tgt := 17) hx hb dJ0_isLatin1_aae02_10 (by decide) (fun c10 => ?_) (fun c10 => ?_)
    · exact absurd c10 (by decide)
    · refine lv_iconst (v := 1) hx hb dJ0_isLatin1_aae02_13 (by decide) ?_
      refine lv_goto (tgt := 18) hx hb dJ0_isLatin1_aae02_14 (by decide) ?_
      have hP9 := hP.sub (ws' := []) [] rfl
      have hD9 := hD.sub (ws' := []) [] (by decide) rfl
      exact W.zret (v := (1 : Int32)) (ty := .boolean) hx hb hr rfl (fun t ht hW => ⟨⟨(1 : Int32), (), rfl, hwp, by rw [ht]; exact hP9, va_K.moved hW.alike hK, hD9⟩, hS.F ht⟩) hS.2.2 dJ0_isLatin1_aae02_18
abbrev ws_J0_checkIndex_df160 : List Cond := .code yJ0_checkIndex_df160 cJ0_checkIndex_df160 2 none :: WALL
theorem gc_J0_1059 : GoodIn WALL (va_wsS RJ0 1059 yJ3_checkIndex_8e157 ws_J3_checkIndex_8e157) := gc_s wd_619 wd_620 wd_134 wd_621
abbrev rm_J0_checkIndex_df160 : Room := { frames := 1, cells := 0, slots := 0, locals := 22 }
def wp_J0_checkIndex_df160 (p0 : Int32) (p1 : Int32) (Q : Prop) : Prop := wp_J3_checkIndex_8e157 p0 p1 (fun (r5 : Int32) => Q)
abbrev w_J0_checkIndex_df160 (C : Nat → ClassId) : va_W := []
abbrev q_J0_checkIndex_df160 (D : va_G) (C : Nat → ClassId) (Q : Prop) (A : Nat → Prop) : Array Value → State → Outcome → State → Prop := va_Qv (fun (u : Unit) => Q) (fun (u : Unit) (t : State) => va_P D vwCl (w_J0_checkIndex_df160 C ) t.heap ∧ va_K D vwCl (tyL C) t ∧ va_D A (w_J0_checkIndex_df160 C )) A
set_option maxHeartbeats 4000000 in
set_option maxRecDepth 100000 in
theorem met_J0_checkIndex_df160 (l : Launch) (hst : l.stackTraces = false) (D : va_G) (C : Nat → ClassId) (p0 : Int32) (p1 : Int32) (sz : Nat) (Q : Prop) (hwp : wp_J0_checkIndex_df160 p0 p1 Q) : Met l yJ0_checkIndex_df160 ws_J0_checkIndex_df160 rm_J0_checkIndex_df160 (va_Pc [.int p0, .int p1] (fun U => U.heap.size = sz ∧ va_P D vwCl (w_J0_checkIndex_df160 C ) U.heap ∧ va_K D vwCl (tyL C) U ∧ va_D (fun _ => True) (w_J0_checkIndex_df160 C ) ∧ TX (va_A (w_J0_checkIndex_df160 C ) sz) U U.heap)) (q_J0_checkIndex_df160 D C  Q (va_A (w_J0_checkIndex_df160 C ) sz)) 0 0 (va_A (w_J0_checkIndex_df160 C ) sz) := by
  refine Met.ofW (cc := cJ0_checkIndex_df160) (maxL := 2) (ret := none) (by decide) rfl ?_
  intro p e s m args below meth c s₁ B hml hv
  obtain ⟨rfl, hsz, hP, hK, hD0, hT⟩ := hv
  have hx := B.exec
  have hb := B.bytes
  have hr := B.returns
  have hts : ∀ w ∈ WALL, w.before _ s = true := fun w h => atoms_spec (ws := ws_J0_checkIndex_df160) B.pre w (List.mem_cons_of_mem _ h)
  have hown : s.vm.findClass RJ0 = some m.cls := findClass_of_methodNamed B.named
  have hlocks := B.notSynchronized
  subst hsz
  have hD := hD0.self (sz := s.heap.size)
  generalize hAe : va_A (w_J0_checkIndex_df160 C ) s.heap.size = A at hD ⊢ hT
  have hA : ∀ q : Nat, s.heap.size ≤ q → A q := fun q h => by rw [← hAe]; exact Or.inr h
  have hS : va_S A s.heap s.heap [] := va_S.rf
  have hl := lv_entry ([.int p0, .int p1]) (n := 2) (Nat.le_of_ble_eq_true rfl)
  rw [lg_entry_eq]
  generalize (lg_sl ([.int p0, .int p1]) ++ List.replicate (2 - (lg_sl ([.int p0, .int p1])).length) Slot.unset).toArray = ls at hl ⊢
  have hl : lv_has ls 2 [(0, .int p0), (1, .int p1)] := hl
  unfold wp_J0_checkIndex_df160 at hwp
  obtain ⟨H, hH⟩ : ∃ H, H = s.heap := ⟨_, rfl⟩
  obtain ⟨locs, hlo⟩ : ∃ z : List Loc, z = [] := ⟨_, rfl⟩
  have hP : va_P D vwCl [] H := by rw [hH]; exact hP
  have hD : va_D A [] := hD
  have hS : va_S A s.heap H locs := by rw [hH, hlo]; exact hS
  suffices K : W p l e (headSpec ws_J0_checkIndex_df160 rm_J0_checkIndex_df160).room s m ([.int p0, .int p1] : List Value).toArray below meth c H locs 0 0 (MQ below (q_J0_checkIndex_df160 D C Q A) ([.int p0, .int p1] : List Value).toArray s 0 0 A) (F0 m 0 ls []) from by rw [hH, hlo] at K; exact K
  refine lv_iload_n hx hb dJ0_checkIndex_df160_0 rfl (lv_at hl 0 rfl) ?_
  refine lv_iload_n hx hb dJ0_checkIndex_df160_1 rfl (lv_at hl 1 rfl) ?_
  obtain ⟨vz, hzv, hany⟩ : ∃ v : Value, va_Z "jdk/internal/util/Preconditions" "SIOOBE_FORMATTER" "Ljava/util/function/BiFunction;" v A s s.heap ∧ (v = .null ∨ ∃ t : Nat, v = .ref t) := by
    rcases hT.2.2.2.2.2.2.2 with h9 | ⟨t9, h9⟩
    · exact ⟨_, h9, Or.inl rfl⟩
    · exact ⟨_, h9, Or.inr ⟨t9, rfl⟩⟩
  refine va_gets hx hb hzv hS hown (hts (.fieldLink RJ0 1053 "jdk/internal/util/Preconditions" "SIOOBE_FORMATTER" "Ljava/util/function/BiFunction;") wd_617) (fun _ h9 => h9) dJ0_checkIndex_df160_2 ?_
  have hPc := hP.sub (ws' := []) [] rfl
  have hDc := hD.sub (ws' := []) [] (by decide) rfl
  have hFc := va_free (wc := []) hD hS hA [] rfl
  refine va_calli (va_runS (As := [.int p0, .int p1, vz]) (rest := []) ⟨hx, hb, hml, hown, hts⟩ (met_J3_checkIndex_8e157 l D C p0 p1 vz hany H.size _ hwp) (va_cwS 3 hts gc_J0_1059 rfl rfl rfl (by decide +kernel) ⟨Nat.le_of_ble_eq_true rfl, Nat.le_of_ble_eq_true rfl⟩) ⟨fun a U g mk q => by obtain ⟨q0, q1, qP, qK, qD⟩ := q; exact ⟨q0, q1, qP, va_K.moved (u := U) (U := U.calling g mk a) (Vm.Alike.refl U.vm) qK, qD⟩, fun U hU hW => ⟨rfl, by rw [hU], by rw [hU]; exact hPc, va_K.moved hW.alike hK, hDc.weaken (fun _ _ _ _ => trivial)⟩⟩ rfl rfl hl.1 rfl (lv_room (Nat.le_of_ble_eq_true rfl)) dJ0_checkIndex_df160_5 ⟨Nat.zero_le _, Nat.zero_le _⟩) hS (fun q _ h => hFc q h) hFc (fun r5 u t H1 locs ht hvm hwp hB hz1 hk1 hS => ?_)
  obtain ⟨hP1, -, hD1⟩ := hB
  rw [ht] at hP1
  obtain ⟨hP, hD⟩ := va_join (wr := []) (w1 := []) hP hD [] [] rfl rfl (by decide) (by decide) hk1 hFc hP1 hD1
  generalize H1 = H at hP hS ⊢
  have hP : va_P D vwCl [] H := hP
  have hD : va_D A [] := hD
  refine lv_pop hx hb dJ0_checkIndex_df160_8 rfl ?_
  have hP9 := hP.sub (ws' := []) [] rfl
  have hD9 := hD.sub (ws' := []) [] (by decide) rfl
  exact W.vret hx hb hr (fun t ht hW => ⟨⟨(), rfl, hwp, by rw [ht]; exact hP9, va_K.moved hW.alike hK, hD9⟩, hS.F ht⟩) hS.2.2 dJ0_checkIndex_df160_9
abbrev ws_J1_charAt_3b067 : List Cond := .code yJ1_charAt_3b067 cJ1_charAt_3b067 2 (some .char) :: WALL
theorem gc_J1_9 : GoodIn WALL (va_wsS RJ1 9 yJ0_checkIndex_df160 ws_J0_checkIndex_df160) := gc_s wd_614 wd_615 wd_132 wd_616
abbrev rm_J1_charAt_3b067 : Room := { frames := 2, cells := 0, slots := 0, locals := 43 }
def wp_J1_charAt_3b067 (p1 : Int32) (t0_bs : List Int32) (Q : Int32 → Prop) : Prop := wp_J0_checkIndex_df160 p1 (Int32.ofNat t0_bs.length) (vp_in p1 t0_bs.length ∧ ((nzR .char ((((t0_bs.getD p1.toNatClampNeg 0) &&& (255 : Int32)).toUInt32 % 65536).toInt32) ∧ Q ((((t0_bs.getD p1.toNatClampNeg 0) &&& (255 : Int32)).toUInt32 % 65536).toInt32))))
abbrev w_J1_charAt_3b067 (C : Nat → ClassId) (q0 : Nat) (t0_bs : List Int32) : va_W := []
abbrev q_J1_charAt_3b067 (D : va_G) (C : Nat → ClassId) (q0 : Nat) (t0_bs : List Int32) (Q : Int32 → Prop) (A : Nat → Prop) : Array Value → State → Outcome → State → Prop := va_Qi (fun (r : Int32) (u : Unit) => Q r) (fun (u : Unit) (t : State) => va_P D vwCl (w_J1_charAt_3b067 C q0 t0_bs) t.heap ∧ va_K D vwCl (tyL C) t ∧ va_D A (w_J1_charAt_3b067 C q0 t0_bs)) A
set_option maxHeartbeats 4000000 in
set_option maxRecDepth 100000 in
theorem met_J1_charAt_3b067 (l : Launch) (hst : l.stackTraces = false) (D : va_G) (C : Nat → ClassId) (q0 : Nat) (p1 : Int32) (t0_bs : List Int32) (sz : Nat) (Q : Int32 → Prop) (hwp : wp_J1_charAt_3b067 p1 t0_bs Q) : Met l yJ1_charAt_3b067 ws_J1_charAt_3b067 rm_J1_charAt_3b067 (va_Pc [.ref q0, .int p1] (fun U => U.heap.size = sz ∧ va_P D vwCl (w_J1_charAt_3b067 C q0 t0_bs) U.heap ∧ va_K D vwCl (tyL C) U ∧ va_D (fun _ => True) (w_J1_charAt_3b067 C q0 t0_bs) ∧ TX (va_A (w_J1_charAt_3b067 C q0 t0_bs) sz) U U.heap ∧ ArrC t0_bs q0 (va_A (w_J1_charAt_3b067 C q0 t0_bs) sz) U U.heap)) (q_J1_charAt_3b067 D C q0 t0_bs Q (va_A (w_J1_charAt_3b067 C q0 t0_bs) sz)) 0 0 (va_A (w_J1_charAt_3b067 C q0 t0_bs) sz) := by
  refine Met.ofW (cc := cJ1_charAt_3b067) (maxL := 2) (ret := (some .char)) (by decide) rfl ?_
  intro p e s m args below meth c s₁ B hml hv
  obtain ⟨rfl, hsz, hP, hK, hD0, hT, ht_q0⟩ := hv
  have hx := B.exec
  have hb := B.bytes
  have hr := B.returns
  have hts : ∀ w ∈ WALL, w.before _ s = true := fun w h => atoms_spec (ws := ws_J1_charAt_3b067) B.pre w (List.mem_cons_of_mem _ h)
  have hown : s.vm.findClass RJ1 = some m.cls := findClass_of_methodNamed B.named
  have hlocks := B.notSynchronized
  subst hsz
  have hD := hD0.self (sz := s.heap.size)
  generalize hAe : va_A (w_J1_charAt_3b067 C q0 t0_bs) s.heap.size = A at hD ⊢ hT ht_q0
  have hA : ∀ q : Nat, s.heap.size ≤ q → A q := fun q h => by rw [← hAe]; exact Or.inr h
  have hS : va_S A s.heap s.heap [] := va_S.rf
  have hl := lv_entry ([.ref q0, .int p1]) (n := 2) (Nat.le_of_ble_eq_true rfl)
  rw [lg_entry_eq]
  generalize (lg_sl ([.ref q0, .int p1]) ++ List.replicate (2 - (lg_sl ([.ref q0, .int p1])).length) Slot.unset).toArray = ls at hl ⊢
  have hl : lv_has ls 2 [(0, .ref q0), (1, .int p1)] := hl
  unfold wp_J1_charAt_3b067 at hwp
  obtain ⟨H, hH⟩ : ∃ H, H = s.heap := ⟨_, rfl⟩
  obtain ⟨locs, hlo⟩ : ∃ z : List Loc, z = [] := ⟨_, rfl⟩
  have hP : va_P D vwCl [] H := by rw [hH]; exact hP
  have hD : va_D A [] := hD
  have hS : va_S A s.heap H locs := by rw [hH, hlo]; exact hS
  suffices K : W p l e (headSpec ws_J1_charAt_3b067 rm_J1_charAt_3b067).room s m ([.ref q0, .int p1] : List Value).toArray below meth c H locs 0 0 (MQ below (q_J1_charAt_3b067 D C q0 t0_bs Q A) ([.ref q0, .int p1] : List Value).toArray s 0 0 A) (F0 m 0 ls []) from by rw [hH, hlo] at K; exact K
  refine lv_iload_n hx hb dJ1_charAt_3b067_0 rfl (lv_at hl 1 rfl) ?_
  refine lv_aload_n hx hb dJ1_charAt_3b067_1 rfl (lv_at hl 0 rfl) ?_
  refine va_tlen (v := Int32.ofNat t0_bs.length) hx hb ht_q0 hS rfl dJ1_charAt_3b067_2 ?_
  have hPc := hP.sub (ws' := []) [] rfl
  have hDc := hD.sub (ws' := []) [] (by decide) rfl
  have hFc := va_free (wc := []) hD hS hA [] rfl
  refine va_callv (va_runS (As := [.int p1, .int (Int32.ofNat t0_bs.length)]) (rest := []) ⟨hx, hb, hml, hown, hts⟩ (met_J0_checkIndex_df160 l hst D C p1 (Int32.ofNat t0_bs.length) H.size _ hwp) (va_cwS 2 hts gc_J1_9 rfl rfl rfl (by decide +kernel) ⟨Nat.le_of_ble_eq_true rfl, Nat.le_of_ble_eq_true rfl⟩) ⟨fun a U g mk q => by obtain ⟨q0, q1, qP, qK, qD, qT⟩ := q; exact ⟨q0, q1, qP, va_K.moved (u := U) (U := U.calling g mk a) (Vm.Alike.refl U.vm) qK, qD, qT.mv (U := U.calling g mk a) (State.WarmedH.refl U)⟩, fun U hU hW => ⟨rfl, by rw [hU], by rw [hU]; exact hPc, va_K.moved hW.alike hK, hDc.weaken (fun _ _ _ _ => trivial), hT.call hS hFc hU hW⟩⟩ rfl rfl hl.1 rfl (lv_room (Nat.le_of_ble_eq_true rfl)) dJ1_charAt_3b067_3 ⟨Nat.zero_le _, Nat.zero_le _⟩) hS (fun q _ h => hFc q h) hFc (fun u t H1 locs ht hvm hwp hB hz1 hk1 hS => ?_)
  obtain ⟨hP1, -, hD1⟩ := hB
  rw [ht] at hP1
  obtain ⟨hP, hD⟩ := va_join (wr := []) (w1 := []) hP hD [] [] rfl rfl (by decide) (by decide) hk1 hFc hP1 hD1
  generalize H1 = H at hP hS ⊢
  have hP : va_P D vwCl [] H := hP
  have hD : va_D A [] := hD
  refine lv_aload_n hx hb dJ1_charAt_3b067_6 rfl (lv_at hl 0 rfl) ?_
  refine lv_iload_n hx hb dJ1_charAt_3b067_7 rfl (lv_at hl 1 rfl) ?_
  obtain ⟨hi8, hwp⟩ := hwp
  refine va_tb (v := .int (t0_bs.getD p1.toNatClampNeg 0)) hx hb ht_q0 hS hi8 rfl dJ1_charAt_3b067_8 ?_
  refine lv_sipush (v := 255) hx hb dJ1_charAt_3b067_9 (by decide) ?_
  refine lv_iand hx hb dJ1_charAt_3b067_12 ?_
  refine lv_i2c (v := (((t0_bs.getD p1.toNatClampNeg 0) &&& (255 : Int32)).toUInt32 % 65536).toInt32) hx hb dJ1_charAt_3b067_13 rfl ?_
  have hP9 := hP.sub (ws' := []) [] rfl
  have hD9 := hD.sub (ws' := []) [] (by decide) rfl
  obtain ⟨hn9, hwp⟩ := hwp
  exact W.zret (v := (((t0_bs.getD p1.toNatClampNeg 0) &&& (255 : Int32)).toUInt32 % 65536).toInt32) (ty := .char) hx hb hr hn9 (fun t ht hW => ⟨⟨(((t0_bs.getD p1.toNatClampNeg 0) &&& (255 : Int32)).toUInt32 % 65536).toInt32, (), rfl, hwp, by rw [ht]; exact hP9, va_K.moved hW.alike hK, hD9⟩, hS.F ht⟩) hS.2.2 dJ1_charAt_3b067_14
abbrev ws_J0_charAt_5068e : List Cond := .code yJ0_charAt_5068e cJ0_charAt_5068e 2 (some .char) :: WALL
theorem gc_J0_492 : GoodIn WALL (wsV RJ0 492 RJ0 yJ0_isLatin1_aae02 ws_J0_isLatin1_aae02) := gc_v wd_607 wd_608 wd_609 wd_132 wd_610
theorem gc_J0_495 : GoodIn WALL (va_wsS RJ0 495 yJ1_charAt_3b067 ws_J1_charAt_3b067) := gc_s wd_611 wd_612 wd_133 wd_613
abbrev rm_J0_charAt_5068e : Room := { frames := 3, cells := 0, slots := 0, locals := 64 }
def wp_J0_charAt_5068e (p1 : Int32) (t_bs : List Int32) (Q : Int32 → Prop) : Prop := wp_J1_charAt_3b067 p1 t_bs (fun (r12 : Int32) => (nzR .char r12 ∧ Q r12))
abbrev w_J0_charAt_5068e (C : Nat → ClassId) (q : Nat) (t_bs : List Int32) : va_W := []
abbrev q_J0_charAt_5068e (D : va_G) (C : Nat → ClassId) (q : Nat) (t_bs : List Int32) (Q : Int32 → Prop) (A : Nat → Prop) : Array Value → State → Outcome → State → Prop := va_Qi (fun (r : Int32) (u : Unit) => Q r) (fun (u : Unit) (t : State) => va_P D vwCl (w_J0_charAt_5068e C q t_bs) t.heap ∧ va_K D vwCl (tyL C) t ∧ va_D A (w_J0_charAt_5068e C q t_bs)) A
set_option maxHeartbeats 4000000 in
set_option maxRecDepth 100000 in
theorem met_J0_charAt_5068e (l : Launch) (hst : l.stackTraces = false) (D : va_G) (C : Nat → ClassId) (q : Nat) (p1 : Int32) (t_bs : List Int32) (sz : Nat) (Q : Int32 → Prop) (hwp : wp_J0_charAt_5068e p1 t_bs Q) : Met l yJ0_charAt_5068e ws_J0_charAt_5068e rm_J0_charAt_5068e (va_Pc [.ref q, .int p1] (fun U => U.heap.size = sz ∧ va_P D vwCl (w_J0_charAt_5068e C q t_bs) U.heap ∧ va_K D vwCl (tyL C) U ∧ va_D (fun _ => True) (w_J0_charAt_5068e C q t_bs) ∧ TX (va_A (w_J0_charAt_5068e C q t_bs) sz) U U.heap ∧ StrC t_bs q (va_A (w_J0_charAt_5068e C q t_bs) sz) U U.heap)) (q_J0_charAt_5068e D C q t_bs Q (va_A (w_J0_charAt_5068e C q t_bs) sz)) 0 0 (va_A (w_J0_charAt_5068e C q t_bs) sz) := by
  refine Met.ofW (cc := cJ0_charAt_5068e) (maxL := 2) (ret := (some .char)) (by decide) rfl ?_
  intro p e s m args below meth c s₁ B hml hv
  obtain ⟨rfl, hsz, hP, hK, hD0, hT, hs_q⟩ := hv
  have hx := B.exec
  have hb := B.bytes
  have hr := B.returns
  have hts : ∀ w ∈ WALL, w.before _ s = true := fun w h => atoms_spec (ws := ws_J0_charAt_5068e) B.pre w (List.mem_cons_of_mem _ h)
  have hown : s.vm.findClass RJ0 = some m.cls := findClass_of_methodNamed B.named
  have hlocks := B.notSynchronized
  subst hsz
  have hD := hD0.self (sz := s.heap.size)
  generalize hAe : va_A (w_J0_charAt_5068e C q t_bs) s.heap.size = A at hD ⊢ hT hs_q
  have hA : ∀ q : Nat, s.heap.size ≤ q → A q := fun q h => by rw [← hAe]; exact Or.inr h
  have hS : va_S A s.heap s.heap [] := va_S.rf
  have hl := lv_entry ([.ref q, .int p1]) (n := 2) (Nat.le_of_ble_eq_true rfl)
  rw [lg_entry_eq]
  generalize (lg_sl ([.ref q, .int p1]) ++ List.replicate (2 - (lg_sl ([.ref q, .int p1])).length) Slot.unset).toArray = ls at hl ⊢
  have hl : lv_has ls 2 [(0, .ref q), (1, .int p1)] := hl
  unfold wp_J0_charAt_5068e at hwp
  obtain ⟨H, hH⟩ : ∃ H, H = s.heap := ⟨_, rfl⟩
  obtain ⟨locs, hlo⟩ : ∃ z : List Loc, z = [] := ⟨_, rfl⟩
  have hP : va_P D vwCl [] H := by rw [hH]; exact hP
  have hD : va_D A [] := hD
  have hS : va_S A s.heap H locs := by rw [hH, hlo]; exact hS
  suffices K : W p l e (headSpec ws_J0_charAt_5068e rm_J0_charAt_5068e).room s m ([.ref q, .int p1] : List Value).toArray below meth c H locs 0 0 (MQ below (q_J0_charAt_5068e D C q t_bs Q A) ([.ref q, .int p1] : List Value).toArray s 0 0 A) (F0 m 0 ls []) from by rw [hH, hlo] at K; exact K
  refine lv_aload_n hx hb dJ0_charAt_5068e_0 rfl (lv_at hl 0 rfl) ?_
  have hPc := hP.sub (ws' := []) [] rfl
  have hDc := hD.sub (ws' := []) [] (by decide) rfl
  have hFc := va_free (wc := []) hD hS hA [] rfl
  refine va_calli (va_runV (As := []) (rest := []) ⟨hx, hb, hml, hown, hts⟩ (met_J0_isLatin1_aae02 l hst D C q t_bs H.size (fun r => r = (1 : Int32)) rfl) (cwV 0 hts gc_J0_492 rfl rfl rfl (by decide +kernel) ⟨Nat.le_of_ble_eq_true rfl, Nat.le_of_ble_eq_true rfl⟩) ⟨fun a U g mk q => by obtain ⟨q0, q1, qP, qK, qD, qT, qS_q⟩ := q; exact ⟨q0, q1, qP, va_K.moved (u := U) (U := U.calling g mk a) (Vm.Alike.refl U.vm) qK, qD, qT.mv (U := U.calling g mk a) (State.WarmedH.refl U), qS_q.moved (U := U.calling g mk a) (Vm.Alike.refl U.vm)⟩, hs_q.recv hS, fun U hU hW => ⟨rfl, by rw [hU], by rw [hU]; exact hPc, va_K.moved hW.alike hK, hDc.weaken (fun _ _ _ _ => trivial), hT.call hS hFc hU hW, hs_q.call hS hFc hU hW⟩⟩ rfl rfl hl.1 rfl (lv_room (Nat.le_of_ble_eq_true rfl)) dJ0_charAt_5068e_1 ⟨Nat.zero_le _, Nat.zero_le _⟩) hS (fun q _ h => hFc q h) hFc (fun r1 u t H1 locs ht hvm hwc hB hz1 hk1 hS => ?_)
  obtain rfl := hwc
  obtain ⟨hP1, -, hD1⟩ := hB
  rw [ht] at hP1
  obtain ⟨hP, hD⟩ := va_join (wr := []) (w1 := []) hP hD [] [] rfl rfl (by decide) (by decide) hk1 hFc hP1 hD1
  generalize H1 = H at hP hS ⊢
  have hP : va_P D vwCl [] H := hP
  have hD : va_D A [] := hD
  refine lv_if_eq (tgt := 16) hx hb dJ0_charAt_5068e_4 (by decide) (fun c4 => ?_) (fun c4 => ?_)
  · exact absurd c4 (by decide)
  · refine lv_aload_n hx hb dJ0_charAt_5068e_7 rfl (lv_at hl 0 rfl) ?_
    obtain ⟨q_v, ho_q, hc_q, hv_q, ht_q_v⟩ := id hs_q
    refine vk_getf hx hb hv_q hS hown (hts (.fieldLink RJ0 9 "java/lang/String" "value" "[B") wd_2233) (fun _ h9 => h9) dJ0_charAt_5068e_8 ?_
    refine lv_iload_n hx hb dJ0_charAt_5068e_11 rfl (lv_at hl 1 rfl) ?_
    have hPc := hP.sub (ws' := []) [] rfl
    have hDc := hD.sub (ws' := []) [] (by decide) rfl
    have hFc := va_free (wc := []) hD hS hA [] rfl
    refine va_calli (va_runS (As := [.ref q_v, .int p1]) (rest := []) ⟨hx, hb, hml, hown, hts⟩ (met_J1_charAt_3b067 l hst D C q_v p1 t_bs H.size _ hwp) (va_cwS 2 hts gc_J0_495 rfl rfl rfl (by decide +kernel) ⟨Nat.le_of_ble_eq_true rfl, Nat.le_of_ble_eq_true rfl⟩) ⟨fun a U g mk q => by obtain ⟨q0, q1, qP, qK, qD, qT, qS_q0⟩ := q; exact ⟨q0, q1, qP, va_K.moved (u := U) (U := U.calling g mk a) (Vm.Alike.refl U.vm) qK, qD, qT.mv (U := U.calling g mk a) (State.WarmedH.refl U), va_T.moved (U := U.calling g mk a) (Vm.Alike.refl U.vm) qS_q0⟩, fun U hU hW => ⟨rfl, by rw [hU], by rw [hU]; exact hPc, va_K.moved hW.alike hK, hDc.weaken (fun _ _ _ _ => trivial), hT.call hS hFc hU hW, ArrC_call ht_q_v hS hFc hU hW⟩⟩ rfl rfl hl.1 rfl (lv_room (Nat.le_of_ble_eq_true rfl)) dJ0_charAt_5068e_12 ⟨Nat.zero_le _, Nat.zero_le _⟩) hS (fun q _ h => hFc q h) hFc (fun r12 u t H1 locs ht hvm hwp hB hz1 hk1 hS => ?_)
    obtain ⟨hP1, -, hD1⟩ := hB
    rw [ht] at hP1
    obtain ⟨hP, hD⟩ := va_join (wr := []) (w1 := []) hP hD [] [] rfl rfl (by decide) (by decide) hk1 hFc hP1 hD1
    generalize H1 = H at hP hS ⊢
    have hP : va_P D vwCl [] H := hP
    have hD : va_D A [] := hD
    have hP9 := hP.sub (ws' := []) [] rfl
    have hD9 := hD.sub (ws' := []) [] (by decide) rfl
    obtain ⟨hn9, hwp⟩ := hwp
    exact W.zret (v := r12) (ty := .char) hx hb hr hn9 (fun t ht hW => ⟨⟨r12, (), rfl, hwp, by rw [ht]; exact hP9, va_K.moved hW.alike hK, hD9⟩, hS.F ht⟩) hS.2.2 dJ0_charAt_5068e_15
abbrev ws_X5_isWord : List Cond := .code yX5_isWord cX5_isWord 3 (some .boolean) :: WALL
theorem gc_X5_77 : GoodIn WALL (wsV RX5 77 RJ0 yJ0_length_8abf5 ws_J0_length_8abf5) := gc_v wd_593 wd_594 wd_595 wd_132 wd_596
theorem gc_X5_82 : GoodIn WALL (wsV RX5 82 RJ0 yJ0_charAt_5068e ws_J0_charAt_5068e) := gc_v wd_603 wd_604 wd_605 wd_132 wd_606
abbrev rm_X5_isWord : Room := { frames := 4, cells := 0, slots := 0, locals := 85 }
def wp_X5_isWord_L28 (t1_bs : List Int32) (t_length : Int32) (t_kind : Int32) (t_start : Int32) (t_next : Int32) (t_text : Nat → Int32) (Q : Int32 → Prop) : Nat → Int32 → Prop
  | 0, _ => False
  | n28 + 1, x2 => wp_J0_length_8abf5 t1_bs (fun (r30 : Int32) => (r30 ≤ x2 → (Q (1 : Int32))) ∧ (¬ r30 ≤ x2 → ((t_length ≤ (t_start + x2) → (Q (1 : Int32))) ∧ (¬ t_length ≤ (t_start + x2) → (vp_in (t_start + x2) 600 ∧ (wp_J0_charAt_5068e x2 t1_bs (fun (r62 : Int32) => ((t_text (t_start + x2).toNatClampNeg) = r62 → (wp_X5_isWord_L28 t1_bs t_length t_kind t_start t_next t_text Q n28 (x2 + 1))) ∧ (¬ (t_text (t_start + x2).toNatClampNeg) = r62 → (Q (0 : Int32))))))))))
def wp_X5_isWord (t1_bs : List Int32) (t_length : Int32) (t_kind : Int32) (t_start : Int32) (t_next : Int32) (t_text : Nat → Int32) (Q : Int32 → Prop) : Prop := (¬ t_kind = (1 : Int32) → (Q (0 : Int32))) ∧ (t_kind = (1 : Int32) → (wp_J0_length_8abf5 t1_bs (fun (r18 : Int32) => ((t_next - t_start) = r18 → (∃ n28, wp_X5_isWord_L28 t1_bs t_length t_kind t_start t_next t_text Q n28 (0 : Int32))) ∧ (¬ (t_next - t_start) = r18 → (Q (0 : Int32))))))
abbrev w_X5_isWord (C : Nat → ClassId) (q : Nat) (q_draft : Nat) (q_text : Nat) (q1 : Nat) (t1_bs : List Int32) (t_code : Int32) (t_place : Int32) (t_length : Int32) (t_kind : Int32) (t_start : Int32) (t_next : Int32) (t_value : Int32) (t_text : Nat → Int32) : va_W := [(q, .inr (5, [.ref q_draft, .int t_code, .int t_place, .ref q_text, .int t_length, .int t_kind, .int t_start, .int t_next, .int t_value])), (q_text, .inl (C 1, 600, .inl t_text))]
abbrev q_X5_isWord (D : va_G) (C : Nat → ClassId) (q : Nat) (q_draft : Nat) (q_text : Nat) (q1 : Nat) (t1_bs : List Int32) (t_code : Int32) (t_place : Int32) (t_length : Int32) (t_kind : Int32) (t_start : Int32) (t_next : Int32) (t_value : Int32) (t_text : Nat → Int32) (Q : Int32 → Prop) (A : Nat → Prop) : Array Value → State → Outcome → State → Prop := va_Qi (fun (r : Int32) (u : Unit) => Q r) (fun (u : Unit) (t : State) => va_P D vwCl (w_X5_isWord C q q_draft q_text q1 t1_bs t_code t_place t_length t_kind t_start t_next t_value t_text) t.heap ∧ va_K D vwCl (tyL C) t ∧ va_D A (w_X5_isWord C q q_draft q_text q1 t1_bs t_code t_place t_length t_kind t_start t_next t_value t_text)) A
set_option maxHeartbeats 4000000 in
set_option maxRecDepth 100000 in
theorem met_X5_isWord (l : Launch) (hst : l.stackTraces = false) (D : va_G) (C : Nat → ClassId) (q : Nat) (q_draft : Nat) (q_text : Nat) (q1 : Nat) (t1_bs : List Int32) (t_code : Int32) (t_place : Int32) (t_length : Int32) (t_kind : Int32) (t_start : Int32) (t_next : Int32) (t_value : Int32) (t_text : Nat → Int32) (sz : Nat) (Q : Int32 → Prop) (hwp : wp_X5_isWord t1_bs t_length t_kind t_start t_next t_text Q) : Met l yX5_isWord ws_X5_isWord rm_X5_isWord (va_Pc [.ref q, .ref q1] (fun U => U.heap.size = sz ∧ va_P D vwCl (w_X5_isWord C q q_draft q_text q1 t1_bs t_code t_place t_length t_kind t_start t_next t_value t_text) U.heap ∧ va_K D vwCl (tyL C) U ∧ va_D (fun _ => True) (w_X5_isWord C q q_draft q_text q1 t1_bs t_code t_place t_length t_kind t_start t_next t_value t_text) ∧ TX (va_A (w_X5_isWord C q q_draft q_text q1 t1_bs t_code t_place t_length t_kind t_start t_next t_value t_text) sz) U U.heap ∧ StrC t1_bs q1 (va_A (w_X5_isWord C q q_draft q_text q1 t1_bs t_code t_place t_length t_kind t_start t_next t_value t_text) sz) U U.heap)) (q_X5_isWord D C q q_draft q_text q1 t1_bs t_code t_place t_length t_kind t_start t_next t_value t_text Q (va_A (w_X5_isWord C q q_draft q_text q1 t1_bs t_code t_place t_length t_kind t_start t_next t_value t_text) sz)) 0 0 (va_A (w_X5_isWord C q q_draft q_text q1 t1_bs t_code t_place t_length t_kind t_start t_next t_value t_text) sz) := by
  refine Met.ofW (cc := cX5_isWord) (maxL := 3) (ret := (some .boolean)) (by decide) rfl ?_
  intro p e s m args below meth c s₁ B hml hv
  obtain ⟨rfl, hsz, hP, hK, hD0, hT, hs_q1⟩ := hv
  have hx := B.exec
  have hb := B.bytes
  have hr := B.returns
  have hts : ∀ w ∈ WALL, w.before _ s = true := fun w h => atoms_spec (ws := ws_X5_isWord) B.pre w (List.mem_cons_of_mem _ h)
  have hown : s.vm.findClass RX5 = some m.cls := findClass_of_methodNamed B.named
  have hlocks := B.notSynchronized
  subst hsz
  have hD := hD0.self (sz := s.heap.size)
  generalize hAe : va_A (w_X5_isWord C q q_draft q_text q1 t1_bs t_code t_place t_length t_kind t_start t_next t_value t_text) s.heap.size = A at hD ⊢ hT hs_q1
  have hA : ∀ q : Nat, s.heap.size ≤ q → A q := fun q h => by rw [← hAe]; exact Or.inr h
  have hS : va_S A s.heap s.heap [] := va_S.rf
  have hl := lv_entry ([.ref q, .ref q1]) (n := 3) (Nat.le_of_ble_eq_true rfl)
  rw [lg_entry_eq]
  generalize (lg_sl ([.ref q, .ref q1]) ++ List.replicate (3 - (lg_sl ([.ref q, .ref q1])).length) Slot.unset).toArray = ls at hl ⊢
  have hl : lv_has ls 3 [(0, .ref q), (1, .ref q1)] := hl
  have HL28 : ∀  (n28 : Nat) (x2 : Int32) (H : Heap) (locs : List Loc) (ls : Array Slot), lv_has ls 3 [(0, .ref q), (1, .ref q1), (2, .int x2)] → va_P D vwCl [(q, .inr (5, [.ref q_draft, .int t_code, .int t_place, .ref q_text, .int t_length, .int t_kind, .int t_start, .int t_next, .int t_value])), (q_text, .inl (C 1, 600, .inl t_text))] H → va_D A [(q, .inr (5, [.ref q_draft, .int t_code, .int t_place, .ref q_text, .int t_length, .int t_kind, .int t_start, .int t_next, .int t_value])), (q_text, .inl (C 1, 600, .inl t_text))] → va_S A s.heap H locs → wp_X5_isWord_L28 t1_bs t_length t_kind t_start t_next t_text Q n28 x2 → W p l e (headSpec ws_X5_isWord rm_X5_isWord).room s m ([.ref q, .ref q1] : List Value).toArray below meth c H locs 0 0 (MQ below (q_X5_isWord D C q q_draft q_text q1 t1_bs t_code t_place t_length t_kind t_start t_next t_value t_text Q A) ([.ref q, .ref q1] : List Value).toArray s 0 0 A) (F0 m 28 ls []) := by
    intro  n28
    induction n28 with
    | zero =>
      intro x2 H locs ls hl hP hD hS hwp
      exact False.elim hwp
    | succ n28 ih =>
      intro x2 H locs ls hl hP hD hS hwp
      unfold wp_X5_isWord_L28 at hwp
      refine lv_iload_n hx hb dX5_isWord_28 rfl (lv_at hl 2 rfl) ?_
      refine lv_aload_n hx hb dX5_isWord_29 rfl (lv_at hl 1 rfl) ?_
      have hPc := hP.sub (ws' := []) [] rfl
      have hDc := hD.sub (ws' := []) [] (by decide) rfl
      have hFc := va_free (wc := []) hD hS hA [] rfl
      refine va_calli (va_runV (As := []) (rest := [.int x2]) ⟨hx, hb, hml, hown, hts⟩ (met_J0_length_8abf5 l hst D C q1 t1_bs H.size _ hwp) (cwV 0 hts gc_X5_77 rfl rfl rfl (by decide +kernel) ⟨Nat.le_of_ble_eq_true rfl, Nat.le_of_ble_eq_true rfl⟩) ⟨fun a U g mk q => by obtain ⟨q0, q1, qP, qK, qD, qT, qS_q⟩ := q; exact ⟨q0, q1, qP, va_K.moved (u := U) (U := U.calling g mk a) (Vm.Alike.refl U.vm) qK, qD, qT.mv (U := U.calling g mk a) (State.WarmedH.refl U), qS_q.moved (U := U.calling g mk a) (Vm.Alike.refl U.vm)⟩, hs_q1.recv hS, fun U hU hW => ⟨rfl, by rw [hU], by rw [hU]; exact hPc, va_K.moved hW.alike hK, hDc.weaken (fun _ _ _ _ => trivial), hT.call hS hFc hU hW, hs_q1.call hS hFc hU hW⟩⟩ rfl rfl hl.1 rfl (lv_room (Nat.le_of_ble_eq_true rfl)) dX5_isWord_30 ⟨Nat.zero_le _, Nat.zero_le _⟩) hS (fun q _ h => hFc q h) hFc (fun r30 u t H1 locs ht hvm hwp hB hz1 hk1 hS => ?_)
      obtain ⟨hP1, -, hD1⟩ := hB
      rw [ht] at hP1
      obtain ⟨hP, hD⟩ := va_join (wr := [(q, .inr (5, [.ref q_draft, .int t_code, .int t_place, .ref q_text, .int t_length, .int t_kind, .int t_start, .int t_next, .int t_value])), (q_text, .inl (C 1, 600, .inl t_text))]) (w1 := []) hP hD [] [0, 1] rfl rfl (by decide) (by decide) hk1 hFc hP1 hD1
      generalize H1 = H at hP hS ⊢
      have hP : va_P D vwCl [(q, .inr (5, [.ref q_draft, .int t_code, .int t_place, .ref q_text, .int t_length, .int t_kind, .int t_start, .int t_next, .int t_value])), (q_text, .inl (C 1, 600, .inl t_text))] H := hP
      have hD : va_D A [(q, .inr (5, [.ref q_draft, .int t_code, .int t_place, .ref q_text, .int t_length, .int t_kind, .int t_start, .int t_next, .int t_value])), (q_text, .inl (C 1, 600, .inl t_text))] := hD
      refine lv_icmp_ge (tgt := 76) hx hb dX5_isWord_33 (by decide) (fun c33 => ?_) (fun c33 => ?_)
      · have hwp := hwp.1 c33
        refine lv_iconst (v := 1) hx hb dX5_isWord_76 (by decide) ?_
        have hP9 := hP.sub (ws' := [(q, .inr (5, [.ref q_draft, .int t_code, .int t_place, .ref q_text, .int t_length, .int t_kind, .int t_start, .int t_next, .int t_value])), (q_text, .inl (C 1, 600, .inl t_text))]) [0, 1] rfl
        have hD9 := hD.sub (ws' := [(q, .inr (5, [.ref q_draft, .int t_code, .int t_place, .ref q_text, .int t_length, .int t_kind, .int t_start, .int t_next, .int t_value])), (q_text, .inl (C 1, 600, .inl t_text))]) [0, 1] (by decide) rfl
        exact W.zret (v := (1 : Int32)) (ty := .boolean) hx hb hr rfl (fun t ht hW => ⟨⟨(1 : Int32), (), rfl, hwp, by rw [ht]; exact hP9, va_K.moved hW.alike hK, hD9⟩, hS.F ht⟩) hS.2.2 dX5_isWord_77
      · have hwp := hwp.2 c33
        refine lv_aload_n hx hb dX5_isWord_36 rfl (lv_at hl 0 rfl) ?_
        refine va_get (D := D) (ci := 5) (v := .int t_start) (C := RX5) (T := TX5) (N := 9) hx hb hts iwX5 hown hK hP 0 rfl rfl 6 (by decide) (hts (.fieldLink RX5 57 "ParetoDesk$Parser" "start" "I") wd_235) (fun _ h9 => h9) rfl dX5_isWord_37 ?_
        refine lv_iload_n hx hb dX5_isWord_40 rfl (lv_at hl 2 rfl) ?_
        refine lv_iadd hx hb dX5_isWord_41 ?_
        refine lv_aload_n hx hb dX5_isWord_42 rfl (lv_at hl 0 rfl) ?_
        refine va_get (D := D) (ci := 5) (v := .int t_length) (C := RX5) (T := TX5) (N := 9) hx hb hts iwX5 hown hK hP 0 rfl rfl 4 (by decide) (hts (.fieldLink RX5 32 "ParetoDesk$Parser" "length" "I") wd_233) (fun _ h9 => h9) rfl dX5_isWord_43 ?_
        refine lv_icmp_ge (tgt := 76) hx hb dX5_isWord_46 (by decide) (fun c46 => ?_) (fun c46 => ?_)
        · have hwp := hwp.1 c46
          refine lv_iconst (v := 1) hx hb dX5_isWord_76 (by decide) ?_
          have hP9 := hP.sub (ws' := [(q, .inr (5, [.ref q_draft, .int t_code, .int t_place, .ref q_text, .int t_length, .int t_kind, .int t_start, .int t_next, .int t_value])), (q_text, .inl (C 1, 600, .inl t_text))]) [0, 1] rfl
          have hD9 := hD.sub (ws' := [(q, .inr (5, [.ref q_draft, .int t_code, .int t_place, .ref q_text, .int t_length, .int t_kind, .int t_start, .int t_next, .int t_value])), (q_text, .inl (C 1, 600, .inl t_text))]) [0, 1] (by decide) rfl
          exact W.zret (v := (1 : Int32)) (ty := .boolean) hx hb hr rfl (fun t ht hW => ⟨⟨(1 : Int32), (), rfl, hwp, by rw [ht]; exact hP9, va_K.moved hW.alike hK, hD9⟩, hS.F ht⟩) hS.2.2 dX5_isWord_77
        · have hwp := hwp.2 c46
          refine lv_aload_n hx hb dX5_isWord_49 rfl (lv_at hl 0 rfl) ?_
          refine va_get (D := D) (ci := 5) (v := .ref q_text) (C := RX5) (T := TX5) (N := 9) hx hb hts iwX5 hown hK hP 0 rfl rfl 3 (by decide) (hts (.fieldLink RX5 22 "ParetoDesk$Parser" "text" "[B") wd_232) (fun _ h9 => h9) rfl dX5_isWord_50 ?_
          refine lv_aload_n hx hb dX5_isWord_53 rfl (lv_at hl 0 rfl) ?_
          refine va_get (D := D) (ci := 5) (v := .int t_start) (C := RX5) (T := TX5) (N := 9) hx hb hts iwX5 hown hK hP 0 rfl rfl 6 (by decide) (hts (.fieldLink RX5 57 "ParetoDesk$Parser" "start" "I") wd_235) (fun _ h9 => h9) rfl dX5_isWord_54 ?_
          refine lv_iload_n hx hb dX5_isWord_57 rfl (lv_at hl 2 rfl) ?_
          refine lv_iadd hx hb dX5_isWord_58 ?_
          obtain ⟨hi59, hwp⟩ := hwp
          refine va_bald (D := D) hx hb hK hP 1 1 rfl rfl hi59 dX5_isWord_59 ?_
          refine lv_aload_n hx hb dX5_isWord_60 rfl (lv_at hl 1 rfl) ?_
          refine lv_iload_n hx hb dX5_isWord_61 rfl (lv_at hl 2 rfl) ?_
          have hPc := hP.sub (ws' := []) [] rfl
          have hDc := hD.sub (ws' := []) [] (by decide) rfl
          have hFc := va_free (wc := []) hD hS hA [] rfl
          refine va_calli (va_runV (As := [.int x2]) (rest := [.int (t_text (t_start + x2).toNatClampNeg)]) ⟨hx, hb, hml, hown, hts⟩ (met_J0_charAt_5068e l hst D C q1 x2 t1_bs H.size _ hwp) (cwV 1 hts gc_X5_82 rfl rfl rfl (by decide +kernel) ⟨Nat.le_of_ble_eq_true rfl, Nat.le_of_ble_eq_true rfl⟩) ⟨fun a U g mk q => by obtain ⟨q0, q1, qP, qK, qD, qT, qS_q⟩ := q; exact ⟨q0, q1, qP, va_K.moved (u := U) (U := U.calling g mk a) (Vm.Alike.refl U.vm) qK, qD, qT.mv (U := U.calling g mk a) (State.WarmedH.refl U), qS_q.moved (U := U.calling g mk a) (Vm.Alike.refl U.vm)⟩, hs_q1.recv hS, fun U hU hW => ⟨rfl, by rw [hU], by rw [hU]; exact hPc, va_K.moved hW.alike hK, hDc.weaken (fun _ _ _ _ => trivial), hT.call hS hFc hU hW, hs_q1.call hS hFc hU hW⟩⟩ rfl rfl hl.1 rfl (lv_room (Nat.le_of_ble_eq_true rfl)) dX5_isWord_62 ⟨Nat.zero_le _, Nat.zero_le _⟩) hS (fun q _ h => hFc q h) hFc (fun r62 u t H1 locs ht hvm hwp hB hz1 hk1 hS => ?_)
          obtain ⟨hP1, -, hD1⟩ := hB
          rw [ht] at hP1
          obtain ⟨hP, hD⟩ := va_join (wr := [(q, .inr (5, [.ref q_draft, .int t_code, .int t_place, .ref q_text, .int t_length, .int t_kind, .int t_start, .int t_next, .int t_value])), (q_text, .inl (C 1, 600, .inl t_text))]) (w1 := []) hP hD [] [0, 1] rfl rfl (by decide) (by decide) hk1 hFc hP1 hD1
          generalize H1 = H at hP hS ⊢
          have hP : va_P D vwCl [(q, .inr (5, [.ref q_draft, .int t_code, .int t_place, .ref q_text, .int t_length, .int t_kind, .int t_start, .int t_next, .int t_value])), (q_text, .inl (C 1, 600, .inl t_text))] H := hP
          have hD : va_D A [(q, .inr (5, [.ref q_draft, .int t_code, .int t_place, .ref q_text, .int t_length, .int t_kind, .int t_start, .int t_next, .int t_value])), (q_text, .inl (C 1, 600, .inl t_text))] := hD
          refine lv_icmp_eq (tgt := 70) hx hb dX5_isWord_65 (by decide) (fun c65 => ?_) (fun c65 => ?_)
          · have hwp := hwp.1 c65
            refine lv_iinc (v := x2 + 1) (lv' := [(2, .int (x2 + 1)), (0, .ref q), (1, .ref q1)]) hx hb dX5_isWord_70 hl (k := 2) rfl rfl (by decide) rfl (fun ls hl => ?_)
            refine lv_goto (tgt := 28) hx hb dX5_isWord_73 (by decide) ?_
            have hl9 := lv_sub (l' := [(0, .ref q), (1, .ref q1), (2, .int (x2 + 1))]) hl [1, 2, 0] rfl
            have hP9 := hP.sub (ws' := [(q, .inr (5, [.ref q_draft, .int t_code, .int t_place, .ref q_text, .int t_length, .int t_kind, .int t_start, .int t_next, .int t_value])), (q_text, .inl (C 1, 600, .inl t_text))]) [0, 1] rfl
            have hD9 := hD.sub (ws' := [(q, .inr (5, [.ref q_draft, .int t_code, .int t_place, .ref q_text, .int t_length, .int t_kind, .int t_start, .int t_next, .int t_value])), (q_text, .inl (C 1, 600, .inl t_text))]) [0, 1] (by decide) rfl
            exact ih (x2 + 1) H locs ls hl9 hP9 hD9 hS hwp
          · have hwp := hwp.2 c65
            refine lv_iconst (v := 0) hx hb dX5_isWord_68 (by decide) ?_
            have hP9 := hP.sub (ws' := [(q, .inr (5, [.ref q_draft, .int t_code, .int t_place, .ref q_text, .int t_length, .int t_kind, .int t_start, .int t_next, .int t_value])), (q_text, .inl (C 1, 600, .inl t_text))]) [0, 1] rfl
            have hD9 := hD.sub (ws' := [(q, .inr (5, [.ref q_draft, .int t_code, .int t_place, .ref q_text, .int t_length, .int t_kind, .int t_start, .int t_next, .int t_value])), (q_text, .inl (C 1, 600, .inl t_text))]) [0, 1] (by decide) rfl
            exact W.zret (v := (0 : Int32)) (ty := .boolean) hx hb hr rfl (fun t ht hW => ⟨⟨(0 : Int32), (), rfl, hwp, by rw [ht]; exact hP9, va_K.moved hW.alike hK, hD9⟩, hS.F ht⟩) hS.2.2 dX5_isWord_69
  unfold wp_X5_isWord at hwp
  obtain ⟨H, hH⟩ : ∃ H, H = s.heap := ⟨_, rfl⟩
  obtain ⟨locs, hlo⟩ : ∃ z : List Loc, z = [] := ⟨_, rfl⟩
  have hP : va_P D vwCl [(q, .inr (5, [.ref q_draft, .int t_code, .int t_place, .ref q_text, .int t_length, .int t_kind, .int t_start, .int t_next, .int t_value])), (q_text, .inl (C 1, 600, .inl t_text))] H := by rw [hH]; exact hP
  have hD : va_D A [(q, .inr (5, [.ref q_draft, .int t_code, .int t_place, .ref q_text, .int t_length, .int t_kind, .int t_start, .int t_next, .int t_value])), (q_text, .inl (C 1, 600, .inl t_text))] := hD
  have hS : va_S A s.heap H locs := by rw [hH, hlo]; exact hS
  suffices K : W p l e (headSpec ws_X5_isWord rm_X5_isWord).room s m ([.ref q, .ref q1] : List Value).toArray below meth c H locs 0 0 (MQ below (q_X5_isWord D C q q_draft q_text q1 t1_bs t_code t_place t_length t_kind t_start t_next t_value t_text Q A) ([.ref q, .ref q1] : List Value).toArray s 0 0 A) (F0 m 0 ls []) from by rw [hH, hlo] at K; exact K
  refine lv_aload_n hx hb dX5_isWord_0 rfl (lv_at hl 0 rfl) ?_
  refine va_get (D := D) (ci := 5) (v := .int t_kind) (C := RX5) (T := TX5) (N := 9) hx hb hts iwX5 hown hK hP 0 rfl rfl 5 (by decide) (hts (.fieldLink RX5 51 "ParetoDesk$Parser" "kind" "I") wd_234) (fun _ h9 => h9) rfl dX5_isWord_1 ?_
  refine lv_iconst (v := 1) hx hb dX5_isWord_4 (by decide) ?_
  refine lv_icmp_ne (tgt := 24) hx hb dX5_isWord_5 (by decide) (fun c5 => ?_) (fun c5 => ?_)
  · have hwp := hwp.1 c5
    refine lv_iconst (v := 0) hx hb dX5_isWord_24 (by decide) ?_
    have hP9 := hP.sub (ws' := [(q, .inr (5, [.ref q_draft, .int t_code, .int t_place, .ref q_text, .int t_length, .int t_kind, .int t_start, .int t_next, .int t_value])), (q_text, .inl (C 1, 600, .inl t_text))]) [0, 1] rfl
    have hD9 := hD.sub (ws' := [(q, .inr (5, [.ref q_draft, .int t_code, .int t_place, .ref q_text, .int t_length, .int t_kind, .int t_start, .int t_next, .int t_value])), (q_text, .inl (C 1, 600, .inl t_text))]) [0, 1] (by decide) rfl
    exact W.zret (v := (0 : Int32)) (ty := .boolean) hx hb hr rfl (fun t ht hW => ⟨⟨(0 : Int32), (), rfl, hwp, by rw [ht]; exact hP9, va_K.moved hW.alike hK, hD9⟩, hS.F ht⟩) hS.2.2 dX5_isWord_25
  · have hwp := hwp.2 c5
    refine lv_aload_n hx hb dX5_isWord_8 rfl (lv_at hl 0 rfl) ?_
    refine va_get (D := D) (ci := 5) (v := .int t_next) (C := RX5) (T := TX5) (N := 9) hx hb hts iwX5 hown hK hP 0 rfl rfl 7 (by decide) (hts (.fieldLink RX5 35 "ParetoDesk$Parser" "next" "I") wd_236) (fun _ h9 => h9) rfl dX5_isWord_9 ?_
    refine lv_aload_n hx hb dX5_isWord_12 rfl (lv_at hl 0 rfl) ?_
    refine va_get (D := D) (ci := 5) (v := .int t_start) (C := RX5) (T := TX5) (N := 9) hx hb hts iwX5 hown hK hP 0 rfl rfl 6 (by decide) (hts (.fieldLink RX5 57 "ParetoDesk$Parser" "start" "I") wd_235) (fun _ h9 => h9) rfl dX5_isWord_13 ?_
    refine lv_isub hx hb dX5_isWord_16 ?_
    refine lv_aload_n hx hb dX5_isWord_17 rfl (lv_at hl 1 rfl) ?_
    have hPc := hP.sub (ws' := []) [] rfl
    have hDc := hD.sub (ws' := []) [] (by decide) rfl
    have hFc := va_free (wc := []) hD hS hA [] rfl
    refine va_calli (va_runV (As := []) (rest := [.int (t_next - t_start)]) ⟨hx, hb, hml, hown, hts⟩ (met_J0_length_8abf5 l hst D C q1 t1_bs H.size _ hwp) (cwV 0 hts gc_X5_77 rfl rfl rfl (by decide +kernel) ⟨Nat.le_of_ble_eq_true rfl, Nat.le_of_ble_eq_true rfl⟩) ⟨fun a U g mk q => by obtain ⟨q0, q1, qP, qK, qD, qT, qS_q⟩ := q; exact ⟨q0, q1, qP, va_K.moved (u := U) (U := U.calling g mk a) (Vm.Alike.refl U.vm) qK, qD, qT.mv (U := U.calling g mk a) (State.WarmedH.refl U), qS_q.moved (U := U.calling g mk a) (Vm.Alike.refl U.vm)⟩, hs_q1.recv hS, fun U hU hW => ⟨rfl, by rw [hU], by rw [hU]; exact hPc, va_K.moved hW.alike hK, hDc.weaken (fun _ _ _ _ => trivial), hT.call hS hFc hU hW, hs_q1.call hS hFc hU hW⟩⟩ rfl rfl hl.1 rfl (lv_room (Nat.le_of_ble_eq_true rfl)) dX5_isWord_18 ⟨Nat.zero_le _, Nat.zero_le _⟩) hS (fun q _ h => hFc q h) hFc (fun r18 u t H1 locs ht hvm hwp hB hz1 hk1 hS => ?_)
    obtain ⟨hP1, -, hD1⟩ := hB
    rw [ht] at hP1
    obtain ⟨hP, hD⟩ := va_join (wr := [(q, .inr (5, [.ref q_draft, .int t_code, .int t_place, .ref q_text, .int t_length, .int t_kind, .int t_start, .int t_next, .int t_value])), (q_text, .inl (C 1, 600, .inl t_text))]) (w1 := []) hP hD [] [0, 1] rfl rfl (by decide) (by decide) hk1 hFc hP1 hD1
    generalize H1 = H at hP hS ⊢
    have hP : va_P D vwCl [(q, .inr (5, [.ref q_draft, .int t_code, .int t_place, .ref q_text, .int t_length, .int t_kind, .int t_start, .int t_next, .int t_value])), (q_text, .inl (C 1, 600, .inl t_text))] H := hP
    have hD : va_D A [(q, .inr (5, [.ref q_draft, .int t_code, .int t_place, .ref q_text, .int t_length, .int t_kind, .int t_start, .int t_next, .int t_value])), (q_text, .inl (C 1, 600, .inl t_text))] := hD
    refine lv_icmp_eq (tgt := 26) hx hb dX5_isWord_21 (by decide) (fun c21 => ?_) (fun c21 => ?_)
    · have hwp := hwp.1 c21
      refine lv_iconst (v := 0) hx hb dX5_isWord_26 (by decide) ?_
      refine lv_istore_n (lv' := [(2, .int (0 : Int32)), (0, .ref q), (1, .ref q1)]) hx hb dX5_isWord_27 rfl hl (by decide) rfl (fun ls hl => ?_)
      have hl9 := lv_sub (l' := [(0, .ref q), (1, .ref q1), (2, .int (0 : Int32))]) hl [1, 2, 0] rfl
      have hP9 := hP.sub (ws' := [(q, .inr (5, [.ref q_draft, .int t_code, .int t_place, .ref q_text, .int t_length, .int t_kind, .int t_start, .int t_next, .int t_value])), (q_text, .inl (C 1, 600, .inl t_text))]) [0, 1] rfl
      have hD9 := hD.sub (ws' := [(q, .inr (5, [.ref q_draft, .int t_code, .int t_place, .ref q_text, .int t_length, .int t_kind, .int t_start, .int t_next, .int t_value])), (q_text, .inl (C 1, 600, .inl t_text))]) [0, 1] (by decide) rfl
      obtain ⟨nn9, hwp⟩ := hwp
      refine HL28  nn9 (0 : Int32) H locs ls hl9 hP9 hD9 hS hwp
    · have hwp := hwp.2 c21
      refine lv_iconst (v := 0) hx hb dX5_isWord_24 (by decide) ?_
      have hP9 := hP.sub (ws' := [(q, .inr (5, [.ref q_draft, .int t_code, .int t_place, .ref q_text, .int t_length, .int t_kind, .int t_start, .int t_next, .int t_value])), (q_text, .inl (C 1, 600, .inl t_text))]) [0, 1] rfl
      have hD9 := hD.sub (ws' := [(q, .inr (5, [.ref q_draft, .int t_code, .int t_place, .ref q_text, .int t_length, .int t_kind, .int t_start, .int t_next, .int t_value])), (q_text, .inl (C 1, 600, .inl t_text))]) [0, 1] (by decide) rfl
      exact W.zret (v := (0 : Int32)) (ty := .boolean) hx hb hr rfl (fun t ht hW => ⟨⟨(0 : Int32), (), rfl, hwp, by rw [ht]; exact hP9, va_K.moved hW.alike hK, hD9⟩, hS.F ht⟩) hS.2.2 dX5_isWord_25
abbrev ws_X5_passWord : List Cond := .code yX5_passWord cX5_passWord 2 (some .boolean) :: WALL
theorem gc_X5_86 : GoodIn WALL (wsV RX5 86 RX5 yX5_isWord ws_X5_isWord) := gc_v wd_589 wd_591 wd_3 wd_114 wd_592
theorem gc_X5_44 : GoodIn WALL (wsV RX5 44 RX5 yX5_advance ws_X5_advance) := gc_v wd_566 wd_568 wd_0 wd_114 wd_569
theorem gc_X5_90 : GoodIn WALL (wsV RX5 90 RX5 yX5_fail ws_X5_fail) := gc_v wd_641 wd_643 wd_4 wd_114 wd_644
abbrev rm_X5_passWord : Room := { frames := 5, cells := 0, slots := 0, locals := 107 }
def wp_X5_passWord (t1_bs : List Int32) (t_code : Int32) (t_place : Int32) (t_length : Int32) (t_kind : Int32) (t_start : Int32) (t_next : Int32) (t_value : Int32) (t_text : Nat → Int32) (Q : Int32 → Int32 → Int32 → Int32 → Int32 → Int32 → Int32 → Prop) : Prop := wp_X5_isWord t1_bs t_length t_kind t_start t_next t_text (fun (r2 : Int32) => (¬ r2 = 0 → (wp_X5_advance t_length t_kind t_start t_next t_value t_text (fun (u15_1 : Int32) (u15_2 : Int32) (u15_3 : Int32) (u15_4 : Int32) => Q (1 : Int32) t_code t_place u15_1 u15_2 u15_3 u15_4))) ∧ (r2 = 0 → (wp_X5_fail (1 : Int32) t_code t_place t_start (fun (r10 : Int32) (u10_5 : Int32) (u10_6 : Int32) => (nzR .boolean r10 ∧ Q r10 u10_5 u10_6 t_kind t_start t_next t_value)))))
abbrev w_X5_passWord (C : Nat → ClassId) (q : Nat) (q_draft : Nat) (q_text : Nat) (q1 : Nat) (t1_bs : List Int32) (t_code : Int32) (t_place : Int32) (t_length : Int32) (t_kind : Int32) (t_start : Int32) (t_next : Int32) (t_value : Int32) (t_text : Nat → Int32) : va_W := [(q, .inr (5, [.ref q_draft, .int t_code, .int t_place, .ref q_text, .int t_length, .int t_kind, .int t_start, .int t_next, .int t_value])), (q_text, .inl (C 1, 600, .inl t_text))]
abbrev q_X5_passWord (D : va_G) (C : Nat → ClassId) (q : Nat) (q_draft : Nat) (q_text : Nat) (q1 : Nat) (t1_bs : List Int32) (t_length : Int32) (t_text : Nat → Int32) (Q : Int32 → Int32 → Int32 → Int32 → Int32 → Int32 → Int32 → Prop) (A : Nat → Prop) : Array Value → State → Outcome → State → Prop := va_Qi (fun (r : Int32) (u : Int32 × Int32 × Int32 × Int32 × Int32 × Int32) => Q r u.1 u.2.1 u.2.2.1 u.2.2.2.1 u.2.2.2.2.1 u.2.2.2.2.2) (fun (u : Int32 × Int32 × Int32 × Int32 × Int32 × Int32) (t : State) => va_P D vwCl (w_X5_passWord C q q_draft q_text q1 t1_bs u.1 u.2.1 t_length u.2.2.1 u.2.2.2.1 u.2.2.2.2.1 u.2.2.2.2.2 t_text) t.heap ∧ va_K D vwCl (tyL C) t ∧ va_D A (w_X5_passWord C q q_draft q_text q1 t1_bs u.1 u.2.1 t_length u.2.2.1 u.2.2.2.1 u.2.2.2.2.1 u.2.2.2.2.2 t_text)) A
set_option maxHeartbeats 4000000 in
set_option maxRecDepth 100000 in
theorem met_X5_passWord (l : Launch) (hst : l.stackTraces = false) (D : va_G) (C : Nat → ClassId) (q : Nat) (q_draft : Nat) (q_text : Nat) (q1 : Nat) (t1_bs : List Int32) (t_code : Int32) (t_place : Int32) (t_length : Int32) (t_kind : Int32) (t_start : Int32) (t_next : Int32) (t_value : Int32) (t_text : Nat → Int32) (sz : Nat) (Q : Int32 → Int32 → Int32 → Int32 → Int32 → Int32 → Int32 → Prop) (hwp : wp_X5_passWord t1_bs t_code t_place t_length t_kind t_start t_next t_value t_text Q) : Met l yX5_passWord ws_X5_passWord rm_X5_passWord (va_Pc [.ref q, .ref q1] (fun U => U.heap.size = sz ∧ va_P D vwCl (w_X5_passWord C q q_draft q_text q1 t1_bs t_code t_place t_length t_kind t_start t_next t_value t_text) U.heap ∧ va_K D vwCl (tyL C) U ∧ va_D (fun _ => True) (w_X5_passWord C q q_draft q_text q1 t1_bs t_code t_place t_length t_kind t_start t_next t_value t_text) ∧ TX (va_A (w_X5_passWord C q q_draft q_text q1 t1_bs t_code t_place t_length t_kind t_start t_next t_value t_text) sz) U U.heap ∧ StrC t1_bs q1 (va_A (w_X5_passWord C q q_draft q_text q1 t1_bs t_code t_place t_length t_kind t_start t_next t_value t_text) sz) U U.heap)) (q_X5_passWord D C q q_draft q_text q1 t1_bs t_length t_text Q (va_A (w_X5_passWord C q q_draft q_text q1 t1_bs t_code t_place t_length t_kind t_start t_next t_value t_text) sz)) 0 0 (va_A (w_X5_passWord C q q_draft q_text q1 t1_bs t_code t_place t_length t_kind t_start t_next t_value t_text) sz) := by
  refine Met.ofW (cc := cX5_passWord) (maxL := 2) (ret := (some .boolean)) (by decide) rfl ?_
  intro p e s m args below meth c s₁ B hml hv
  obtain ⟨rfl, hsz, hP, hK, hD0, hT, hs_q1⟩ := hv
  have hx := B.exec
  have hb := B.bytes
  have hr := B.returns
  have hts : ∀ w ∈ WALL, w.before _ s = true := fun w h => atoms_spec (ws := ws_X5_passWord) B.pre w (List.mem_cons_of_mem _ h)
  have hown : s.vm.findClass RX5 = some m.cls := findClass_of_methodNamed B.named
  have hlocks := B.notSynchronized
  subst hsz
  have hD := hD0.self (sz := s.heap.size)
  generalize hAe : va_A (w_X5_passWord C q q_draft q_text q1 t1_bs t_code t_place t_length t_kind t_start t_next t_value t_text) s.heap.size = A at hD ⊢ hT hs_q1
  have hA : ∀ q : Nat, s.heap.size ≤ q → A q := fun q h => by rw [← hAe]; exact Or.inr h
  have hS : va_S A s.heap s.heap [] := va_S.rf
  have hl := lv_entry ([.ref q, .ref q1]) (n := 2) (Nat.le_of_ble_eq_true rfl)
  rw [lg_entry_eq]
  generalize (lg_sl ([.ref q, .ref q1]) ++ List.replicate (2 - (lg_sl ([.ref q, .ref q1])).length) Slot.unset).toArray = ls at hl ⊢
  have hl : lv_has ls 2 [(0, .ref q), (1, .ref q1)] := hl
  unfold wp_X5_passWord at hwp
  obtain ⟨H, hH⟩ : ∃ H, H = s.heap := ⟨_, rfl⟩
  obtain ⟨locs, hlo⟩ : ∃ z : List Loc, z = [] := ⟨_, rfl⟩
  have hP : va_P D vwCl [(q, .inr (5, [.ref q_draft, .int t_code, .int t_place, .ref q_text, .int t_length, .int t_kind, .int t_start, .int t_next, .int t_value])), (q_text, .inl (C 1, 600, .inl t_text))] H := by rw [hH]; exact hP
  have hD : va_D A [(q, .inr (5, [.ref q_draft, .int t_code, .int t_place, .ref q_text, .int t_length, .int t_kind, .int t_start, .int t_next, .int t_value])), (q_text, .inl (C 1, 600, .inl t_text))] := hD
  have hS : va_S A s.heap H locs := by rw [hH, hlo]; exact hS
  suffices K : W p l e (headSpec ws_X5_passWord rm_X5_passWord).room s m ([.ref q, .ref q1] : List Value).toArray below meth c H locs 0 0 (MQ below (q_X5_passWord D C q q_draft q_text q1 t1_bs t_length t_text Q A) ([.ref q, .ref q1] : List Value).toArray s 0 0 A) (F0 m 0 ls []) from by rw [hH, hlo] at K; exact K
  refine lv_aload_n hx hb dX5_passWord_0 rfl (lv_at hl 0 rfl) ?_
  refine lv_aload_n hx hb dX5_passWord_1 rfl (lv_at hl 1 rfl) ?_
  have hPc := hP.sub (ws' := [(q, .inr (5, [.ref q_draft, .int t_code, .int t_place, .ref q_text, .int t_length, .int t_kind, .int t_start, .int t_next, .int t_value])), (q_text, .inl (C 1, 600, .inl t_text))]) [0, 1] rfl
  have hDc := hD.sub (ws' := [(q, .inr (5, [.ref q_draft, .int t_code, .int t_place, .ref q_text, .int t_length, .int t_kind, .int t_start, .int t_next, .int t_value])), (q_text, .inl (C 1, 600, .inl t_text))]) [0, 1] (by decide) rfl
  have hFc := va_free (wc := [(q, .inr (5, [.ref q_draft, .int t_code, .int t_place, .ref q_text, .int t_length, .int t_kind, .int t_start, .int t_next, .int t_value])), (q_text, .inl (C 1, 600, .inl t_text))]) hD hS hA [0, 1] rfl
  refine va_calli (va_runV (As := [.ref q1]) (rest := []) ⟨hx, hb, hml, hown, hts⟩ (met_X5_isWord l hst D C q q_draft q_text q1 t1_bs t_code t_place t_length t_kind t_start t_next t_value t_text H.size _ hwp) (cwV 1 hts gc_X5_86 rfl rfl rfl (by decide +kernel) ⟨Nat.le_of_ble_eq_true rfl, Nat.le_of_ble_eq_true rfl⟩) ⟨fun a U g mk q => by obtain ⟨q0, q1, qP, qK, qD, qT, qS_q1⟩ := q; exact ⟨q0, q1, qP, va_K.moved (u := U) (U := U.calling g mk a) (Vm.Alike.refl U.vm) qK, qD, qT.mv (U := U.calling g mk a) (State.WarmedH.refl U), qS_q1.moved (U := U.calling g mk a) (Vm.Alike.refl U.vm)⟩, va_recv hK hPc (ci := 5) (q0 := 0) rfl rfl, fun U hU hW => ⟨rfl, by rw [hU], by rw [hU]; exact hPc, va_K.moved hW.alike hK, hDc.weaken (fun _ _ _ _ => trivial), hT.call hS hFc hU hW, hs_q1.call hS hFc hU hW⟩⟩ rfl rfl hl.1 rfl (lv_room (Nat.le_of_ble_eq_true rfl)) dX5_passWord_2 ⟨Nat.zero_le _, Nat.zero_le _⟩) hS (fun q _ h => hFc q h) hFc (fun r2 u t H1 locs ht hvm hwp hB hz1 hk1 hS => ?_)
  obtain ⟨hP1, -, hD1⟩ := hB
  rw [ht] at hP1
  obtain ⟨hP, hD⟩ := va_join (wr := []) (w1 := [(q, .inr (5, [.ref q_draft, .int t_code, .int t_place, .ref q_text, .int t_length, .int t_kind, .int t_start, .int t_next, .int t_value])), (q_text, .inl (C 1, 600, .inl t_text))]) hP hD [0, 1] [] rfl rfl (by decide) (by decide) hk1 hFc hP1 hD1
  generalize H1 = H at hP hS ⊢
  have hP : va_P D vwCl [(q, .inr (5, [.ref q_draft, .int t_code, .int t_place, .ref q_text, .int t_length, .int t_kind, .int t_start, .int t_next, .int t_value])), (q_text, .inl (C 1, 600, .inl t_text))] H := hP
  have hD : va_D A [(q, .inr (5, [.ref q_draft, .int t_code, .int t_place, .ref q_text, .int t_length, .int t_kind, .int t_start, .int t_next, .int t_value])), (q_text, .inl (C 1, 600, .inl t_text))] := hD
  refine lv_if_ne (tgt := 14) hx hb dX5_passWord_5 (by decide) (fun c5 => ?_) (fun c5 => ?_)
  · have hwp := hwp.1 c5
    refine lv_aload_n hx hb dX5_passWord_14 rfl (lv_at hl 0 rfl) ?_
    have hPc := hP.sub (ws' := [(q, .inr (5, [.ref q_draft, .int t_code, .int t_place, .ref q_text, .int t_length, .int t_kind, .int t_start, .int t_next, .int t_value])), (q_text, .inl (C 1, 600, .inl t_text))]) [0, 1] rfl
    have hDc := hD.sub (ws' := [(q, .inr (5, [.ref q_draft, .int t_code, .int t_place, .ref q_text, .int t_length, .int t_kind, .int t_start, .int t_next, .int t_value])), (q_text, .inl (C 1, 600, .inl t_text))]) [0, 1] (by decide) rfl
    have hFc := va_free (wc := [(q, .inr (5, [.ref q_draft, .int t_code, .int t_place, .ref q_text, .int t_length, .int t_kind, .int t_start, .int t_next, .int t_value])), (q_text, .inl (C 1, 600, .inl t_text))]) hD hS hA [0, 1] rfl
    refine va_callv (va_runV (As := []) (rest := []) ⟨hx, hb, hml, hown, hts⟩ (met_X5_advance l D C q q_draft q_text t_code t_place t_length t_kind t_start t_next t_value t_text H.size _ hwp) (cwV 0 hts gc_X5_44 rfl rfl rfl (by decide +kernel) ⟨Nat.le_of_ble_eq_true rfl, Nat.le_of_ble_eq_true rfl⟩) ⟨fun a U g mk q => by obtain ⟨q0, q1, qP, qK, qD⟩ := q; exact ⟨q0, q1, qP, va_K.moved (u := U) (U := U.calling g mk a) (Vm.Alike.refl U.vm) qK, qD⟩, va_recv hK hPc (ci := 5) (q0 := 0) rfl rfl, fun U hU hW => ⟨rfl, by rw [hU], by rw [hU]; exact hPc, va_K.moved hW.alike hK, hDc.weaken (fun _ _ _ _ => trivial)⟩⟩ rfl rfl hl.1 rfl (lv_room (Nat.le_of_ble_eq_true rfl)) dX5_passWord_15 ⟨Nat.zero_le _, Nat.zero_le _⟩) hS (fun q _ h => hFc q h) hFc (fun u t H1 locs ht hvm hwp hB hz1 hk1 hS => ?_)
    obtain ⟨u15_1, u15_2, u15_3, u15_4⟩ := u
    obtain ⟨hP1, -, hD1⟩ := hB
    rw [ht] at hP1
    obtain ⟨hP, hD⟩ := va_join (wr := []) (w1 := [(q, .inr (5, [.ref q_draft, .int t_code, .int t_place, .ref q_text, .int t_length, .int u15_1, .int u15_2, .int u15_3, .int u15_4])), (q_text, .inl (C 1, 600, .inl t_text))]) hP hD [0, 1] [] rfl rfl (by decide) (by decide) hk1 hFc hP1 hD1
    generalize H1 = H at hP hS ⊢
    have hP : va_P D vwCl [(q, .inr (5, [.ref q_draft, .int t_code, .int t_place, .ref q_text, .int t_length, .int u15_1, .int u15_2, .int u15_3, .int u15_4])), (q_text, .inl (C 1, 600, .inl t_text))] H := hP
    have hD : va_D A [(q, .inr (5, [.ref q_draft, .int t_code, .int t_place, .ref q_text, .int t_length, .int u15_1, .int u15_2, .int u15_3, .int u15_4])), (q_text, .inl (C 1, 600, .inl t_text))] := hD
    refine lv_iconst (v := 1) hx hb dX5_passWord_18 (by decide) ?_
    have hP9 := hP.sub (ws' := [(q, .inr (5, [.ref q_draft, .int t_code, .int t_place, .ref q_text, .int t_length, .int u15_1, .int u15_2, .int u15_3, .int u15_4])), (q_text, .inl (C 1, 600, .inl t_text))]) [0, 1] rfl
    have hD9 := hD.sub (ws' := [(q, .inr (5, [.ref q_draft, .int t_code, .int t_place, .ref q_text, .int t_length, .int u15_1, .int u15_2, .int u15_3, .int u15_4])), (q_text, .inl (C 1, 600, .inl t_text))]) [0, 1] (by decide) rfl
    exact W.zret (v := (1 : Int32)) (ty := .boolean) hx hb hr rfl (fun t ht hW => ⟨⟨(1 : Int32), (t_code, t_place, u15_1, u15_2, u15_3, u15_4), rfl, hwp, by rw [ht]; exact hP9, va_K.moved hW.alike hK, hD9⟩, hS.F ht⟩) hS.2.2 dX5_passWord_19
  · have hwp := hwp.2 c5
    refine lv_aload_n hx hb dX5_passWord_8 rfl (lv_at hl 0 rfl) ?_
    refine lv_iconst (v := 1) hx hb dX5_passWord_9 (by decide) ?_
    have hPc := hP.sub (ws' := [(q, .inr (5, [.ref q_draft, .int t_code, .int t_place, .ref q_text, .int t_length, .int t_kind, .int t_start, .int t_next, .int t_value]))]) [0] rfl
    have hDc := hD.sub (ws' := [(q, .inr (5, [.ref q_draft, .int t_code, .int t_place, .ref q_text, .int t_length, .int t_kind, .int t_start, .int t_next, .int t_value]))]) [0] (by decide) rfl
    have hFc := va_free (wc := [(q, .inr (5, [.ref q_draft, .int t_code, .int t_place, .ref q_text, .int t_length, .int t_kind, .int t_start, .int t_next, .int t_value]))]) hD hS hA [0] rfl
    refine va_calli (va_runV (As := [.int (1 : Int32)]) (rest := []) ⟨hx, hb, hml, hown, hts⟩ (met_X5_fail l D C q q_draft q_text (1 : Int32) t_code t_place t_length t_kind t_start t_next t_value H.size _ hwp) (cwV 1 hts gc_X5_90 rfl rfl rfl (by decide +kernel) ⟨Nat.le_of_ble_eq_true rfl, Nat.le_of_ble_eq_true rfl⟩) ⟨fun a U g mk q => by obtain ⟨q0, q1, qP, qK, qD⟩ := q; exact ⟨q0, q1, qP, va_K.moved (u := U) (U := U.calling g mk a) (Vm.Alike.refl U.vm) qK, qD⟩, va_recv hK hPc (ci := 5) (q0 := 0) rfl rfl, fun U hU hW => ⟨rfl, by rw [hU], by rw [hU]; exact hPc, va_K.moved hW.alike hK, hDc.weaken (fun _ _ _ _ => trivial)⟩⟩ rfl rfl hl.1 rfl (lv_room (Nat.le_of_ble_eq_true rfl)) dX5_passWord_10 ⟨Nat.zero_le _, Nat.zero_le _⟩) hS (fun q _ h => hFc q h) hFc (fun r10 u t H1 locs ht hvm hwp hB hz1 hk1 hS => ?_)
    obtain ⟨u10_5, u10_6⟩ := u
    obtain ⟨hP1, -, hD1⟩ := hB
    rw [ht] at hP1
    obtain ⟨hP, hD⟩ := va_join (wr := [(q_text, .inl (C 1, 600, .inl t_text))]) (w1 := [(q, .inr (5, [.ref q_draft, .int u10_5, .int u10_6, .ref q_text, .int t_length, .int t_kind, .int t_start, .int t_next, .int t_value]))]) hP hD [0] [1] rfl rfl (by decide) (by decide) hk1 hFc hP1 hD1
    generalize H1 = H at hP hS ⊢
    have hP : va_P D vwCl [(q_text, .inl (C 1, 600, .inl t_text)), (q, .inr (5, [.ref q_draft, .int u10_5, .int u10_6, .ref q_text, .int t_length, .int t_kind, .int t_start, .int t_next, .int t_value]))] H := hP
    have hD : va_D A [(q_text, .inl (C 1, 600, .inl t_text)), (q, .inr (5, [.ref q_draft, .int u10_5, .int u10_6, .ref q_text, .int t_length, .int t_kind, .int t_start, .int t_next, .int t_value]))] := hD
    have hP9 := hP.sub (ws' := [(q, .inr (5, [.ref q_draft, .int u10_5, .int u10_6, .ref q_text, .int t_length, .int t_kind, .int t_start, .int t_next, .int t_value])), (q_text, .inl (C 1, 600, .inl t_text))]) [1, 0] rfl
    have hD9 := hD.sub (ws' := [(q, .inr (5, [.ref q_draft, .int u10_5, .int u10_6, .ref q_text, .int t_length, .int t_kind, .int t_start, .int t_next, .int t_value])), (q_text, .inl (C 1, 600, .inl t_text))]) [1, 0] (by decide) rfl
    obtain ⟨hn9, hwp⟩ := hwp
    exact W.zret (v := r10) (ty := .boolean) hx hb hr hn9 (fun t ht hW => ⟨⟨r10, (u10_5, u10_6, t_kind, t_start, t_next, t_value), rfl, hwp, by rw [ht]; exact hP9, va_K.moved hW.alike hK, hD9⟩, hS.F ht⟩) hS.2.2 dX5_passWord_13
abbrev ws_X11_isWord : List Cond := .code yX11_isWord cX11_isWord 4 (some .boolean) :: WALL
theorem gc_X11_281 : GoodIn WALL (wsV RX11 281 RJ0 yJ0_length_8abf5 ws_J0_length_8abf5) := gc_v wd_1680 wd_594 wd_595 wd_132 wd_596
theorem gc_X11_286 : GoodIn WALL (wsV RX11 286 RJ0 yJ0_charAt_5068e ws_J0_charAt_5068e) := gc_v wd_1681 wd_604 wd_605 wd_132 wd_606
abbrev rm_X11_isWord : Room := { frames := 4, cells := 0, slots := 0, locals := 85 }
def wp_X11_isWord_L39 (t1_bs : List Int32) (t_next : Int32) (t_start : Int32) (t_token : Int32) (t_errorFound : Int32) (t_input : Nat → Int32) (Q : Int32 → Prop) : Nat → Int32 → Int32 → Prop
  | 0, _, _ => False
  | n39 + 1, x2, x3 => wp_J0_length_8abf5 t1_bs (fun (r41 : Int32) => (r41 ≤ x3 → ((nzR .boolean x2 ∧ Q x2))) ∧ (¬ r41 ≤ x3 → ((x2 = 0 → ((nzR .boolean x2 ∧ Q x2))) ∧ (¬ x2 = 0 → (vp_in (t_start + x3) 600 ∧ (wp_J0_charAt_5068e x3 t1_bs (fun (r64 : Int32) => (¬ (t_input (t_start + x3).toNatClampNeg) = r64 → (wp_X11_isWord_L39 t1_bs t_next t_start t_token t_errorFound t_input Q n39 (0 : Int32) (x3 + 1))) ∧ ((t_input (t_start + x3).toNatClampNeg) = r64 → (wp_X11_isWord_L39 t1_bs t_next t_start t_token t_errorFound t_input Q n39 (1 : Int32) (x3 + 1))))))))))
def wp_X11_isWord (t1_bs : List Int32) (t_next : Int32) (t_start : Int32) (t_token : Int32) (t_errorFound : Int32) (t_input : Nat → Int32) (Q : Int32 → Prop) : Prop := wp_X11_good t_errorFound (fun (r1 : Int32) => (r1 = 0 → (∃ n39, wp_X11_isWord_L39 t1_bs t_next t_start t_token t_errorFound t_input Q n39 (0 : Int32) (0 : Int32))) ∧ (¬ r1 = 0 → ((¬ t_token = (1 : Int32) → (∃ n39, wp_X11_isWord_L39 t1_bs t_next t_start t_token t_errorFound t_input Q n39 (0 : Int32) (0 : Int32))) ∧ (t_token = (1 : Int32) → (wp_J0_length_8abf5 t1_bs (fun (r25 : Int32) => (¬ (t_next - t_start) = r25 → (∃ n39, wp_X11_isWord_L39 t1_bs t_next t_start t_token t_errorFound t_input Q n39 (0 : Int32) (0 : Int32))) ∧ ((t_next - t_start) = r25 → (∃ n39, wp_X11_isWord_L39 t1_bs t_next t_start t_token t_errorFound t_input Q n39 (1 : Int32) (0 : Int32)))))))))
abbrev w_X11_isWord (C : Nat → ClassId) (q : Nat) (q_net : Nat) (q_draft : Nat) (q_row : Nat) (q_joyAt : Nat) (q_pointGain : Nat) (q_pointJoy : Nat) (q_pointSet : Nat) (q_pointTimes : Nat) (q_pointLight : Nat) (q_pointAt : Nat) (q_corner : Nat) (q_steps : Nat) (q_pairs : Nat) (q_layerOfPair : Nat) (q_layerJoy : Nat) (q_input : Nat) (q_slots : Nat) (q_isKept : Nat) (q_past : Nat) (q_output : Nat) (q1 : Nat) (t1_bs : List Int32) (t_thrown : Int32) (t_allowedMany : Int32) (t_pointMany : Int32) (t_cornerMany : Int32) (t_stepMany : Int32) (t_queued : Int32) (t_pairMany : Int32) (t_layerMany : Int32) (t_climbSteps : Int32) (t_ahead : Int32) (t_inputSize : Int32) (t_textSize : Int32) (t_next : Int32) (t_start : Int32) (t_token : Int32) (t_value : Int32) (t_errorFound : Int32) (t_errorPlace : Int32) (t_remembered : Int32) (t_outputSize : Int32) (t_input : Nat → Int32) : va_W := [(q, .inr (11, [.int t_thrown, .ref q_net, .ref q_draft, .ref q_row, .int t_allowedMany, .ref q_joyAt, .int t_pointMany, .ref q_pointGain, .ref q_pointJoy, .ref q_pointSet, .ref q_pointTimes, .ref q_pointLight, .ref q_pointAt, .ref q_corner, .int t_cornerMany, .ref q_steps, .int t_stepMany, .int t_queued, .ref q_pairs, .ref q_layerOfPair, .int t_pairMany, .ref q_layerJoy, .int t_layerMany, .int t_climbSteps, .int t_ahead, .ref q_input, .int t_inputSize, .int t_textSize, .int t_next, .int t_start, .int t_token, .int t_value, .int t_errorFound, .int t_errorPlace, .ref q_slots, .ref q_isKept, .ref q_past, .int t_remembered, .ref q_output, .int t_outputSize])), (q_input, .inl (C 1, 600, .inl t_input))]
abbrev q_X11_isWord (D : va_G) (C : Nat → ClassId) (q : Nat) (q_net : Nat) (q_draft : Nat) (q_row : Nat) (q_joyAt : Nat) (q_pointGain : Nat) (q_pointJoy : Nat) (q_pointSet : Nat) (q_pointTimes : Nat) (q_pointLight : Nat) (q_pointAt : Nat) (q_corner : Nat) (q_steps : Nat) (q_pairs : Nat) (q_layerOfPair : Nat) (q_layerJoy : Nat) (q_input : Nat) (q_slots : Nat) (q_isKept : Nat) (q_past : Nat) (q_output : Nat) (q1 : Nat) (t1_bs : List Int32) (t_thrown : Int32) (t_allowedMany : Int32) (t_pointMany : Int32) (t_cornerMany : Int32) (t_stepMany : Int32) (t_queued : Int32) (t_pairMany : Int32) (t_layerMany : Int32) (t_climbSteps : Int32) (t_ahead : Int32) (t_inputSize : Int32) (t_textSize : Int32) (t_next : Int32) (t_start : Int32) (t_token : Int32) (t_value : Int32) (t_errorFound : Int32) (t_errorPlace : Int32) (t_remembered : Int32) (t_outputSize : Int32) (t_input : Nat → Int32) (Q : Int32 → Prop) (A : Nat → Prop) : Array Value → State → Outcome → State → Prop := va_Qi (fun (r : Int32) (u : Unit) => Q r) (fun (u : Unit) (t : State) => va_P D vwCl (w_X11_isWord C q q_net q_draft q_row q_joyAt q_pointGain q_pointJoy q_pointSet q_pointTimes q_pointLight q_pointAt q_corner q_steps q_pairs q_layerOfPair q_layerJoy q_input q_slots q_isKept q_past q_output q1 t1_bs t_thrown t_allowedMany t_pointMany t_cornerMany t_stepMany t_queued t_pairMany t_layerMany t_climbSteps t_ahead t_inputSize t_textSize t_next t_start t_token t_value t_errorFound t_errorPlace t_remembered t_outputSize t_input) t.heap ∧ va_K D vwCl (tyL C) t ∧ va_D A (w_X11_isWord C q q_net q_draft q_row q_joyAt q_pointGain q_pointJoy q_pointSet q_pointTimes q_pointLight q_pointAt q_corner q_steps q_pairs q_layerOfPair q_layerJoy q_input q_slots q_isKept q_past q_output q1 t1_bs t_thrown t_allowedMany t_pointMany t_cornerMany t_stepMany t_queued t_pairMany t_layerMany t_climbSteps t_ahead t_inputSize t_textSize t_next t_start t_token t_value t_errorFound t_errorPlace t_remembered t_outputSize t_input)) A
set_option maxHeartbeats 4000000 in
set_option maxRecDepth 100000 in
theorem met_X11_isWord (l : Launch) (hst : l.stackTraces = false) (D : va_G) (C : Nat → ClassId) (q : Nat) (q_net : Nat) (q_draft : Nat) (q_row : Nat) (q_joyAt : Nat) (q_pointGain : Nat) (q_pointJoy : Nat) (q_pointSet : Nat) (q_pointTimes : Nat) (q_pointLight : Nat) (q_pointAt : Nat) (q_corner : Nat) (q_steps : Nat) (q_pairs : Nat) (q_layerOfPair : Nat) (q_layerJoy : Nat) (q_input : Nat) (q_slots : Nat) (q_isKept : Nat) (q_past : Nat) (q_output : Nat) (q1 : Nat) (t1_bs : List Int32) (t_thrown : Int32) (t_allowedMany : Int32) (t_pointMany : Int32) (t_cornerMany : Int32) (t_stepMany : Int32) (t_queued : Int32) (t_pairMany : Int32) (t_layerMany : Int32) (t_climbSteps : Int32) (t_ahead : Int32) (t_inputSize : Int32) (t_textSize : Int32) (t_next : Int32) (t_start : Int32) (t_token : Int32) (t_value : Int32) (t_errorFound : Int32) (t_errorPlace : Int32) (t_remembered : Int32) (t_outputSize : Int32) (t_input : Nat → Int32) (sz : Nat) (Q : Int32 → Prop) (hwp : wp_X11_isWord t1_bs t_next t_start t_token t_errorFound t_input Q) : Met l yX11_isWord ws_X11_isWord rm_X11_isWord (va_Pc [.ref q, .ref q1] (fun U => U.heap.size = sz ∧ va_P D vwCl (w_X11_isWord C q q_net q_draft q_row q_joyAt q_pointGain q_pointJoy q_pointSet q_pointTimes q_pointLight q_pointAt q_corner q_steps q_pairs q_layerOfPair q_layerJoy q_input q_slots q_isKept q_past q_output q1 t1_bs t_thrown t_allowedMany t_pointMany t_cornerMany t_stepMany t_queued t_pairMany t_layerMany t_climbSteps t_ahead t_inputSize t_textSize t_next t_start t_token t_value t_errorFound t_errorPlace t_remembered t_outputSize t_input) U.heap ∧ va_K D vwCl (tyL C) U ∧ va_D (fun _ => True) (w_X11_isWord C q q_net q_draft q_row q_joyAt q_pointGain q_pointJoy q_pointSet q_pointTimes q_pointLight q_pointAt q_corner q_steps q_pairs q_layerOfPair q_layerJoy q_input q_slots q_isKept q_past q_output q1 t1_bs t_thrown t_allowedMany t_pointMany t_cornerMany t_stepMany t_queued t_pairMany t_layerMany t_climbSteps t_ahead t_inputSize t_textSize t_next t_start t_token t_value t_errorFound t_errorPlace t_remembered t_outputSize t_input) ∧ TX (va_A (w_X11_isWord C q q_net q_draft q_row q_joyAt q_pointGain q_pointJoy q_pointSet q_pointTimes q_pointLight q_pointAt q_corner q_steps q_pairs q_layerOfPair q_layerJoy q_input q_slots q_isKept q_past q_output q1 t1_bs t_thrown t_allowedMany t_pointMany t_cornerMany t_stepMany t_queued t_pairMany t_layerMany t_climbSteps t_ahead t_inputSize t_textSize t_next t_start t_token t_value t_errorFound t_errorPlace t_remembered t_outputSize t_input) sz) U U.heap ∧ StrC t1_bs q1 (va_A (w_X11_isWord C q q_net q_draft q_row q_joyAt q_pointGain q_pointJoy q_pointSet q_pointTimes q_pointLight q_pointAt q_corner q_steps q_pairs q_layerOfPair q_layerJoy q_input q_slots q_isKept q_past q_output q1 t1_bs t_thrown t_allowedMany t_pointMany t_cornerMany t_stepMany t_queued t_pairMany t_layerMany t_climbSteps t_ahead t_inputSize t_textSize t_next t_start t_token t_value t_errorFound t_errorPlace t_remembered t_outputSize t_input) sz) U U.heap)) (q_X11_isWord D C q q_net q_draft q_row q_joyAt q_pointGain q_pointJoy q_pointSet q_pointTimes q_pointLight q_pointAt q_corner q_steps q_pairs q_layerOfPair q_layerJoy q_input q_slots q_isKept q_past q_output q1 t1_bs t_thrown t_allowedMany t_pointMany t_cornerMany t_stepMany t_queued t_pairMany t_layerMany t_climbSteps t_ahead t_inputSize t_textSize t_next t_start t_token t_value t_errorFound t_errorPlace t_remembered t_outputSize t_input Q (va_A (w_X11_isWord C q q_net q_draft q_row q_joyAt q_pointGain q_pointJoy q_pointSet q_pointTimes q_pointLight q_pointAt q_corner q_steps q_pairs q_layerOfPair q_layerJoy q_input q_slots q_isKept q_past q_output q1 t1_bs t_thrown t_allowedMany t_pointMany t_cornerMany t_stepMany t_queued t_pairMany t_layerMany t_climbSteps t_ahead t_inputSize t_textSize t_next t_start t_token t_value t_errorFound t_errorPlace t_remembered t_outputSize t_input) sz)) 0 0 (va_A (w_X11_isWord C q q_net q_draft q_row q_joyAt q_pointGain q_pointJoy q_pointSet q_pointTimes q_pointLight q_pointAt q_corner q_steps q_pairs q_layerOfPair q_layerJoy q_input q_slots q_isKept q_past q_output q1 t1_bs t_thrown t_allowedMany t_pointMany t_cornerMany t_stepMany t_queued t_pairMany t_layerMany t_climbSteps t_ahead t_inputSize t_textSize t_next t_start t_token t_value t_errorFound t_errorPlace t_remembered t_outputSize t_input) sz) := by
  refine Met.ofW (cc := cX11_isWord) (maxL := 4) (ret := (some .boolean)) (by decide) rfl ?_
  intro p e s m args below meth c s₁ B hml hv
  obtain ⟨rfl, hsz, hP, hK, hD0, hT, hs_q1⟩ := hv
  have hx := B.exec
  have hb := B.bytes
  have hr := B.returns
  have hts : ∀ w ∈ WALL, w.before _ s = true := fun w h => atoms_spec (ws := ws_X11_isWord) B.pre w (List.mem_cons_of_mem _ h)
  have hown : s.vm.findClass RX11 = some m.cls := findClass_of_methodNamed B.named
  have hlocks := B.notSynchronized
  subst hsz
  have hD := hD0.self (sz := s.heap.size)
  generalize hAe : va_A (w_X11_isWord C q q_net q_draft q_row q_joyAt q_pointGain q_pointJoy q_pointSet q_pointTimes q_pointLight q_pointAt q_corner q_steps q_pairs q_layerOfPair q_layerJoy q_input q_slots q_isKept q_past q_output q1 t1_bs t_thrown t_allowedMany t_pointMany t_cornerMany t_stepMany t_queued t_pairMany t_layerMany t_climbSteps t_ahead t_inputSize t_textSize t_next t_start t_token t_value t_errorFound t_errorPlace t_remembered t_outputSize t_input) s.heap.size = A at hD ⊢ hT hs_q1
  have hA : ∀ q : Nat, s.heap.size ≤ q → A q := fun q h => by rw [← hAe]; exact Or.inr h
  have hS : va_S A s.heap s.heap [] := va_S.rf
  have hl := lv_entry ([.ref q, .ref q1]) (n := 4) (Nat.le_of_ble_eq_true rfl)
  rw [lg_entry_eq]
  generalize (lg_sl ([.ref q, .ref q1]) ++ List.replicate (4 - (lg_sl ([.ref q, .ref q1])).length) Slot.unset).toArray = ls at hl ⊢
  have hl : lv_has ls 4 [(0, .ref q), (1, .ref q1)] := hl
  have HL39 : ∀  (n39 : Nat) (x2 : Int32) (x3 : Int32) (H : Heap) (locs : List Loc) (ls : Array Slot), lv_has ls 4 [(0, .ref q), (1, .ref q1), (2, .int x2), (3, .int x3)] → va_P D vwCl [(q, .inr (11, [.int t_thrown, .ref q_net, .ref q_draft, .ref q_row, .int t_allowedMany, .ref q_joyAt, .int t_pointMany, .ref q_pointGain, .ref q_pointJoy, .ref q_pointSet, .ref q_pointTimes, .ref q_pointLight, .ref q_pointAt, .ref q_corner, .int t_cornerMany, .ref q_steps, .int t_stepMany, .int t_queued, .ref q_pairs, .ref q_layerOfPair, .int t_pairMany, .ref q_layerJoy, .int t_layerMany, .int t_climbSteps, .int t_ahead, .ref q_input, .int t_inputSize, .int t_textSize, .int t_next, .int t_start, .int t_token, .int t_value, .int t_errorFound, .int t_errorPlace, .ref q_slots, .ref q_isKept, .ref q_past, .int t_remembered, .ref q_output, .int t_outputSize])), (q_input, .inl (C 1, 600, .inl t_input))] H → va_D A [(q, .inr (11, [.int t_thrown, .ref q_net, .ref q_draft, .ref q_row, .int t_allowedMany, .ref q_joyAt, .int t_pointMany, .ref q_pointGain, .ref q_pointJoy, .ref q_pointSet, .ref q_pointTimes, .ref q_pointLight, .ref q_pointAt, .ref q_corner, .int t_cornerMany, .ref q_steps, .int t_stepMany, .int t_queued, .ref q_pairs, .ref q_layerOfPair, .int t_pairMany, .ref q_layerJoy, .int t_layerMany, .int t_climbSteps, .int t_ahead, .ref q_input, .int t_inputSize, .int t_textSize, .int t_next, .int t_start, .int t_token, .int t_value, .int t_errorFound, .int t_errorPlace, .ref q_slots, .ref q_isKept, .ref q_past, .int t_remembered, .ref q_output, .int t_outputSize])), (q_input, .inl (C 1, 600, .inl t_input))] → va_S A s.heap H locs → wp_X11_isWord_L39 t1_bs t_next t_start t_token t_errorFound t_input Q n39 x2 x3 → W p l e (headSpec ws_X11_isWord rm_X11_isWord).room s m ([.ref q, .ref q1] : List Value).toArray below meth c H locs 0 0 (MQ below (q_X11_isWord D C q q_net q_draft q_row q_joyAt q_pointGain q_pointJoy q_pointSet q_pointTimes q_pointLight q_pointAt q_corner q_steps q_pairs q_layerOfPair q_layerJoy q_input q_slots q_isKept q_past q_output q1 t1_bs t_thrown t_allowedMany t_pointMany t_cornerMany t_stepMany t_queued t_pairMany t_layerMany t_climbSteps t_ahead t_inputSize t_textSize t_next t_start t_token t_value t_errorFound t_errorPlace t_remembered t_outputSize t_input Q A) ([.ref q, .ref q1] : List Value).toArray s 0 0 A) (F0 m 39 ls []) := by
    intro  n39
    induction n39 with
    | zero =>
      intro x2 x3 H locs ls hl hP hD hS hwp
      exact False.elim hwp
    | succ n39 ih =>
      intro x2 x3 H locs ls hl hP hD hS hwp
      unfold wp_X11_isWord_L39 at hwp
      refine lv_iload_n hx hb dX11_isWord_39 rfl (lv_at hl 3 rfl) ?_
      refine lv_aload_n hx hb dX11_isWord_40 rfl (lv_at hl 1 rfl) ?_
      have hPc := hP.sub (ws' := []) [] rfl
      have hDc := hD.sub (ws' := []) [] (by decide) rfl
      have hFc := va_free (wc := []) hD hS hA [] rfl
      refine va_calli (va_runV (As := []) (rest := [.int x3]) ⟨hx, hb, hml, hown, hts⟩ (met_J0_length_8abf5 l hst D C q1 t1_bs H.size _ hwp) (cwV 0 hts gc_X11_281 rfl rfl rfl (by decide +kernel) ⟨Nat.le_of_ble_eq_true rfl, Nat.le_of_ble_eq_true rfl⟩) ⟨fun a U g mk q => by obtain ⟨q0, q1, qP, qK, qD, qT, qS_q⟩ := q; exact ⟨q0, q1, qP, va_K.moved (u := U) (U := U.calling g mk a) (Vm.Alike.refl U.vm) qK, qD, qT.mv (U := U.calling g mk a) (State.WarmedH.refl U), qS_q.moved (U := U.calling g mk a) (Vm.Alike.refl U.vm)⟩, hs_q1.recv hS, fun U hU hW => ⟨rfl, by rw [hU], by rw [hU]; exact hPc, va_K.moved hW.alike hK, hDc.weaken (fun _ _ _ _ => trivial), hT.call hS hFc hU hW, hs_q1.call hS hFc hU hW⟩⟩ rfl rfl hl.1 rfl (lv_room (Nat.le_of_ble_eq_true rfl)) dX11_isWord_41 ⟨Nat.zero_le _, Nat.zero_le _⟩) hS (fun q _ h => hFc q h) hFc (fun r41 u t H1 locs ht hvm hwp hB hz1 hk1 hS => ?_)
      obtain ⟨hP1, -, hD1⟩ := hB
      rw [ht] at hP1
      obtain ⟨hP, hD⟩ := va_join (wr := [(q, .inr (11, [.int t_thrown, .ref q_net, .ref q_draft, .ref q_row, .int t_allowedMany, .ref q_joyAt, .int t_pointMany, .ref q_pointGain, .ref q_pointJoy, .ref q_pointSet, .ref q_pointTimes, .ref q_pointLight, .ref q_pointAt, .ref q_corner, .int t_cornerMany, .ref q_steps, .int t_stepMany, .int t_queued, .ref q_pairs, .ref q_layerOfPair, .int t_pairMany, .ref q_layerJoy, .int t_layerMany, .int t_climbSteps, .int t_ahead, .ref q_input, .int t_inputSize, .int t_textSize, .int t_next, .int t_start, .int t_token, .int t_value, .int t_errorFound, .int t_errorPlace, .ref q_slots, .ref q_isKept, .ref q_past, .int t_remembered, .ref q_output, .int t_outputSize])), (q_input, .inl (C 1, 600, .inl t_input))]) (w1 := []) hP hD [] [0, 1] rfl rfl (by decide) (by decide) hk1 hFc hP1 hD1
      generalize H1 = H at hP hS ⊢
      have hP : va_P D vwCl [(q, .inr (11, [.int t_thrown, .ref q_net, .ref q_draft, .ref q_row, .int t_allowedMany, .ref q_joyAt, .int t_pointMany, .ref q_pointGain, .ref q_pointJoy, .ref q_pointSet, .ref q_pointTimes, .ref q_pointLight, .ref q_pointAt, .ref q_corner, .int t_cornerMany, .ref q_steps, .int t_stepMany, .int t_queued, .ref q_pairs, .ref q_layerOfPair, .int t_pairMany, .ref q_layerJoy, .int t_layerMany, .int t_climbSteps, .int t_ahead, .ref q_input, .int t_inputSize, .int t_textSize, .int t_next, .int t_start, .int t_token, .int t_value, .int t_errorFound, .int t_errorPlace, .ref q_slots, .ref q_isKept, .ref q_past, .int t_remembered, .ref q_output, .int t_outputSize])), (q_input, .inl (C 1, 600, .inl t_input))] H := hP
      have hD : va_D A [(q, .inr (11, [.int t_thrown, .ref q_net, .ref q_draft, .ref q_row, .int t_allowedMany, .ref q_joyAt, .int t_pointMany, .ref q_pointGain, .ref q_pointJoy, .ref q_pointSet, .ref q_pointTimes, .ref q_pointLight, .ref q_pointAt, .ref q_corner, .int t_cornerMany, .ref q_steps, .int t_stepMany, .int t_queued, .ref q_pairs, .ref q_layerOfPair, .int t_pairMany, .ref q_layerJoy, .int t_layerMany, .int t_climbSteps, .int t_ahead, .ref q_input, .int t_inputSize, .int t_textSize, .int t_next, .int t_start, .int t_token, .int t_value, .int t_errorFound, .int t_errorPlace, .ref q_slots, .ref q_isKept, .ref q_past, .int t_remembered, .ref q_output, .int t_outputSize])), (q_input, .inl (C 1, 600, .inl t_input))] := hD
      refine lv_icmp_ge (tgt := 82) hx hb dX11_isWord_44 (by decide) (fun c44 => ?_) (fun c44 => ?_)
      · have hwp := hwp.1 c44
        refine lv_iload_n hx hb dX11_isWord_82 rfl (lv_at hl 2 rfl) ?_
        have hP9 := hP.sub (ws' := [(q, .inr (11, [.int t_thrown, .ref q_net, .ref q_draft, .ref q_row, .int t_allowedMany, .ref q_joyAt, .int t_pointMany, .ref q_pointGain, .ref q_pointJoy, .ref q_pointSet, .ref q_pointTimes, .ref q_pointLight, .ref q_pointAt, .ref q_corner, .int t_cornerMany, .ref q_steps, .int t_stepMany, .int t_queued, .ref q_pairs, .ref q_layerOfPair, .int t_pairMany, .ref q_layerJoy, .int t_layerMany, .int t_climbSteps, .int t_ahead, .ref q_input, .int t_inputSize, .int t_textSize, .int t_next, .int t_start, .int t_token, .int t_value, .int t_errorFound, .int t_errorPlace, .ref q_slots, .ref q_isKept, .ref q_past, .int t_remembered, .ref q_output, .int t_outputSize])), (q_input, .inl (C 1, 600, .inl t_input))]) [0, 1] rfl
        have hD9 := hD.sub (ws' := [(q, .inr (11, [.int t_thrown, .ref q_net, .ref q_draft, .ref q_row, .int t_allowedMany, .ref q_joyAt, .int t_pointMany, .ref q_pointGain, .ref q_pointJoy, .ref q_pointSet, .ref q_pointTimes, .ref q_pointLight, .ref q_pointAt, .ref q_corner, .int t_cornerMany, .ref q_steps, .int t_stepMany, .int t_queued, .ref q_pairs, .ref q_layerOfPair, .int t_pairMany, .ref q_layerJoy, .int t_layerMany, .int t_climbSteps, .int t_ahead, .ref q_input, .int t_inputSize, .int t_textSize, .int t_next, .int t_start, .int t_token, .int t_value, .int t_errorFound, .int t_errorPlace, .ref q_slots, .ref q_isKept, .ref q_past, .int t_remembered, .ref q_output, .int t_outputSize])), (q_input, .inl (C 1, 600, .inl t_input))]) [0, 1] (by decide) rfl
        obtain ⟨hn9, hwp⟩ := hwp
        exact W.zret (v := x2) (ty := .boolean) hx hb hr hn9 (fun t ht hW => ⟨⟨x2, (), rfl, hwp, by rw [ht]; exact hP9, va_K.moved hW.alike hK, hD9⟩, hS.F ht⟩) hS.2.2 dX11_isWord_83
      · have hwp := hwp.2 c44
        refine lv_iload_n hx hb dX11_isWord_47 rfl (lv_at hl 2 rfl) ?_
        refine lv_if_eq (tgt := 82) hx hb dX11_isWord_48 (by decide) (fun c48 => ?_) (fun c48 => ?_)
        · have hwp := hwp.1 c48
          refine lv_iload_n hx hb dX11_isWord_82 rfl (lv_at hl 2 rfl) ?_
          have hP9 := hP.sub (ws' := [(q, .inr (11, [.int t_thrown, .ref q_net, .ref q_draft, .ref q_row, .int t_allowedMany, .ref q_joyAt, .int t_pointMany, .ref q_pointGain, .ref q_pointJoy, .ref q_pointSet, .ref q_pointTimes, .ref q_pointLight, .ref q_pointAt, .ref q_corner, .int t_cornerMany, .ref q_steps, .int t_stepMany, .int t_queued, .ref q_pairs, .ref q_layerOfPair, .int t_pairMany, .ref q_layerJoy, .int t_layerMany, .int t_climbSteps, .int t_ahead, .ref q_input, .int t_inputSize, .int t_textSize, .int t_next, .int t_start, .int t_token, .int t_value, .int t_errorFound, .int t_errorPlace, .ref q_slots, .ref q_isKept, .ref q_past, .int t_remembered, .ref q_output, .int t_outputSize])), (q_input, .inl (C 1, 600, .inl t_input))]) [0, 1] rfl
          have hD9 := hD.sub (ws' := [(q, .inr (11, [.int t_thrown, .ref q_net, .ref q_draft, .ref q_row, .int t_allowedMany, .ref q_joyAt, .int t_pointMany, .ref q_pointGain, .ref q_pointJoy, .ref q_pointSet, .ref q_pointTimes, .ref q_pointLight, .ref q_pointAt, .ref q_corner, .int t_cornerMany, .ref q_steps, .int t_stepMany, .int t_queued, .ref q_pairs, .ref q_layerOfPair, .int t_pairMany, .ref q_layerJoy, .int t_layerMany, .int t_climbSteps, .int t_ahead, .ref q_input, .int t_inputSize, .int t_textSize, .int t_next, .int t_start, .int t_token, .int t_value, .int t_errorFound, .int t_errorPlace, .ref q_slots, .ref q_isKept, .ref q_past, .int t_remembered, .ref q_output, .int t_outputSize])), (q_input, .inl (C 1, 600, .inl t_input))]) [0, 1] (by decide) rfl
          obtain ⟨hn9, hwp⟩ := hwp
          exact W.zret (v := x2) (ty := .boolean) hx hb hr hn9 (fun t ht hW => ⟨⟨x2, (), rfl, hwp, by rw [ht]; exact hP9, va_K.moved hW.alike hK, hD9⟩, hS.F ht⟩) hS.2.2 dX11_isWord_83
        · have hwp := hwp.2 c48
          refine lv_aload_n hx hb dX11_isWord_51 rfl (lv_at hl 0 rfl) ?_
          refine va_get (D := D) (ci := 11) (v := .ref q_input) (C := RX11) (T := TX11) (N := 40) hx hb hts iwX11 hown hK hP 0 rfl rfl 25 (by decide) (hts (.fieldLink RX11 63 "ParetoDeskModel" "input" "[B") wd_1527) (fun _ h9 => h9) rfl dX11_isWord_52 ?_
          refine lv_aload_n hx hb dX11_isWord_55 rfl (lv_at hl 0 rfl) ?_
          refine va_get (D := D) (ci := 11) (v := .int t_start) (C := RX11) (T := TX11) (N := 40) hx hb hts iwX11 hown hK hP 0 rfl rfl 29 (by decide) (hts (.fieldLink RX11 249 "ParetoDeskModel" "start" "I") wd_1531) (fun _ h9 => h9) rfl dX11_isWord_56 ?_
          refine lv_iload_n hx hb dX11_isWord_59 rfl (lv_at hl 3 rfl) ?_
          refine lv_iadd hx hb dX11_isWord_60 ?_
          obtain ⟨hi61, hwp⟩ := hwp
          refine va_bald (D := D) hx hb hK hP 1 1 rfl rfl hi61 dX11_isWord_61 ?_
          refine lv_aload_n hx hb dX11_isWord_62 rfl (lv_at hl 1 rfl) ?_
          refine lv_iload_n hx hb dX11_isWord_63 rfl (lv_at hl 3 rfl) ?_
          have hPc := hP.sub (ws' := []) [] rfl
          have hDc := hD.sub (ws' := []) [] (by decide) rfl
          have hFc := va_free (wc := []) hD hS hA [] rfl
          refine va_calli (va_runV (As := [.int x3]) (rest := [.int (t_input (t_start + x3).toNatClampNeg)]) ⟨hx, hb, hml, hown, hts⟩ (met_J0_charAt_5068e l hst D C q1 x3 t1_bs H.size _ hwp) (cwV 1 hts gc_X11_286 rfl rfl rfl (by decide +kernel) ⟨Nat.le_of_ble_eq_true rfl, Nat.le_of_ble_eq_true rfl⟩) ⟨fun a U g mk q => by obtain ⟨q0, q1, qP, qK, qD, qT, qS_q⟩ := q; exact ⟨q0, q1, qP, va_K.moved (u := U) (U := U.calling g mk a) (Vm.Alike.refl U.vm) qK, qD, qT.mv (U := U.calling g mk a) (State.WarmedH.refl U), qS_q.moved (U := U.calling g mk a) (Vm.Alike.refl U.vm)⟩, hs_q1.recv hS, fun U hU hW => ⟨rfl, by rw [hU], by rw [hU]; exact hPc, va_K.moved hW.alike hK, hDc.weaken (fun _ _ _ _ => trivial), hT.call hS hFc hU hW, hs_q1.call hS hFc hU hW⟩⟩ rfl rfl hl.1 rfl (lv_room (Nat.le_of_ble_eq_true rfl)) dX11_isWord_64 ⟨Nat.zero_le _, Nat.zero_le _⟩) hS (fun q _ h => hFc q h) hFc (fun r64 u t H1 locs ht hvm hwp hB hz1 hk1 hS => ?_)
          obtain ⟨hP1, -, hD1⟩ := hB
          rw [ht] at hP1
          obtain ⟨hP, hD⟩ := va_join (wr := [(q, .inr (11, [.int t_thrown, .ref q_net, .ref q_draft, .ref q_row, .int t_allowedMany, .ref q_joyAt, .int t_pointMany, .ref q_pointGain, .ref q_pointJoy, .ref q_pointSet, .ref q_pointTimes, .ref q_pointLight, .ref q_pointAt, .ref q_corner, .int t_cornerMany, .ref q_steps, .int t_stepMany, .int t_queued, .ref q_pairs, .ref q_layerOfPair, .int t_pairMany, .ref q_layerJoy, .int t_layerMany, .int t_climbSteps, .int t_ahead, .ref q_input, .int t_inputSize, .int t_textSize, .int t_next, .int t_start, .int t_token, .int t_value, .int t_errorFound, .int t_errorPlace, .ref q_slots, .ref q_isKept, .ref q_past, .int t_remembered, .ref q_output, .int t_outputSize])), (q_input, .inl (C 1, 600, .inl t_input))]) (w1 := []) hP hD [] [0, 1] rfl rfl (by decide) (by decide) hk1 hFc hP1 hD1
          generalize H1 = H at hP hS ⊢
          have hP : va_P D vwCl [(q, .inr (11, [.int t_thrown, .ref q_net, .ref q_draft, .ref q_row, .int t_allowedMany, .ref q_joyAt, .int t_pointMany, .ref q_pointGain, .ref q_pointJoy, .ref q_pointSet, .ref q_pointTimes, .ref q_pointLight, .ref q_pointAt, .ref q_corner, .int t_cornerMany, .ref q_steps, .int t_stepMany, .int t_queued, .ref q_pairs, .ref q_layerOfPair, .int t_pairMany, .ref q_layerJoy, .int t_layerMany, .int t_climbSteps, .int t_ahead, .ref q_input, .int t_inputSize, .int t_textSize, .int t_next, .int t_start, .int t_token, .int t_value, .int t_errorFound, .int t_errorPlace, .ref q_slots, .ref q_isKept, .ref q_past, .int t_remembered, .ref q_output, .int t_outputSize])), (q_input, .inl (C 1, 600, .inl t_input))] H := hP
          have hD : va_D A [(q, .inr (11, [.int t_thrown, .ref q_net, .ref q_draft, .ref q_row, .int t_allowedMany, .ref q_joyAt, .int t_pointMany, .ref q_pointGain, .ref q_pointJoy, .ref q_pointSet, .ref q_pointTimes, .ref q_pointLight, .ref q_pointAt, .ref q_corner, .int t_cornerMany, .ref q_steps, .int t_stepMany, .int t_queued, .ref q_pairs, .ref q_layerOfPair, .int t_pairMany, .ref q_layerJoy, .int t_layerMany, .int t_climbSteps, .int t_ahead, .ref q_input, .int t_inputSize, .int t_textSize, .int t_next, .int t_start, .int t_token, .int t_value, .int t_errorFound, .int t_errorPlace, .ref q_slots, .ref q_isKept, .ref q_past, .int t_remembered, .ref q_output, .int t_outputSize])), (q_input, .inl (C 1, 600, .inl t_input))] := hD
          refine lv_icmp_ne (tgt := 74) hx hb dX11_isWord_67 (by decide) (fun c67 => ?_) (fun c67 => ?_)
          · have hwp := hwp.1 c67
            refine lv_iconst (v := 0) hx hb dX11_isWord_74 (by decide) ?_
            refine lv_istore_n (lv' := [(2, .int (0 : Int32)), (0, .ref q), (1, .ref q1), (3, .int x3)]) hx hb dX11_isWord_75 rfl hl (by decide) rfl (fun ls hl => ?_)
            refine lv_iinc (v := x3 + 1) (lv' := [(3, .int (x3 + 1)), (2, .int (0 : Int32)), (0, .ref q), (1, .ref q1)]) hx hb dX11_isWord_76 hl (k := 3) rfl rfl (by decide) rfl (fun ls hl => ?_)
            refine lv_goto (tgt := 39) hx hb dX11_isWord_79 (by decide) ?_
            have hl9 := lv_sub (l' := [(0, .ref q), (1, .ref q1), (2, .int (0 : Int32)), (3, .int (x3 + 1))]) hl [2, 3, 1, 0] rfl
            have hP9 := hP.sub (ws' := [(q, .inr (11, [.int t_thrown, .ref q_net, .ref q_draft, .ref q_row, .int t_allowedMany, .ref q_joyAt, .int t_pointMany, .ref q_pointGain, .ref q_pointJoy, .ref q_pointSet, .ref q_pointTimes, .ref q_pointLight, .ref q_pointAt, .ref q_corner, .int t_cornerMany, .ref q_steps, .int t_stepMany, .int t_queued, .ref q_pairs, .ref q_layerOfPair, .int t_pairMany, .ref q_layerJoy, .int t_layerMany, .int t_climbSteps, .int t_ahead, .ref q_input, .int t_inputSize, .int t_textSize, .int t_next, .int t_start, .int t_token, .int t_value, .int t_errorFound, .int t_errorPlace, .ref q_slots, .ref q_isKept, .ref q_past, .int t_remembered, .ref q_output, .int t_outputSize])), (q_input, .inl (C 1, 600, .inl t_input))]) [0, 1] rfl
            have hD9 := hD.sub (ws' := [(q, .inr (11, [.int t_thrown, .ref q_net, .ref q_draft, .ref q_row, .int t_allowedMany, .ref q_joyAt, .int t_pointMany, .ref q_pointGain, .ref q_pointJoy, .ref q_pointSet, .ref q_pointTimes, .ref q_pointLight, .ref q_pointAt, .ref q_corner, .int t_cornerMany, .ref q_steps, .int t_stepMany, .int t_queued, .ref q_pairs, .ref q_layerOfPair, .int t_pairMany, .ref q_layerJoy, .int t_layerMany, .int t_climbSteps, .int t_ahead, .ref q_input, .int t_inputSize, .int t_textSize, .int t_next, .int t_start, .int t_token, .int t_value, .int t_errorFound, .int t_errorPlace, .ref q_slots, .ref q_isKept, .ref q_past, .int t_remembered, .ref q_output, .int t_outputSize])), (q_input, .inl (C 1, 600, .inl t_input))]) [0, 1] (by decide) rfl
            exact ih (0 : Int32) (x3 + 1) H locs ls hl9 hP9 hD9 hS hwp
          · have hwp := hwp.2 c67
            refine lv_iconst (v := 1) hx hb dX11_isWord_70 (by decide) ?_
            refine lv_goto (tgt := 75) hx hb dX11_isWord_71 (by decide) ?_
            refine lv_istore_n (lv' := [(2, .int (1 : Int32)), (0, .ref q), (1, .ref q1), (3, .int x3)]) hx hb dX11_isWord_75 rfl hl (by decide) rfl (fun ls hl => ?_)
            refine lv_iinc (v := x3 + 1) (lv' := [(3, .int (x3 + 1)), (2, .int (1 : Int32)), (0, .ref q), (1, .ref q1)]) hx hb dX11_isWord_76 hl (k := 3) rfl rfl (by decide) rfl (fun ls hl => ?_)
            refine lv_goto (tgt := 39) hx hb dX11_isWord_79 (by decide) ?_
            have hl9 := lv_sub (l' := [(0, .ref q), (1, .ref q1), (2, .int (1 : Int32)), (3, .int (x3 + 1))]) hl [2, 3, 1, 0] rfl
            have hP9 := hP.sub (ws' := [(q, .inr (11, [.int t_thrown, .ref q_net, .ref q_draft, .ref q_row, .int t_allowedMany, .ref q_joyAt, .int t_pointMany, .ref q_pointGain, .ref q_pointJoy, .ref q_pointSet, .ref q_pointTimes, .ref q_pointLight, .ref q_pointAt, .ref q_corner, .int t_cornerMany, .ref q_steps, .int t_stepMany, .int t_queued, .ref q_pairs, .ref q_layerOfPair, .int t_pairMany, .ref q_layerJoy, .int t_layerMany, .int t_climbSteps, .int t_ahead, .ref q_input, .int t_inputSize, .int t_textSize, .int t_next, .int t_start, .int t_token, .int t_value, .int t_errorFound, .int t_errorPlace, .ref q_slots, .ref q_isKept, .ref q_past, .int t_remembered, .ref q_output, .int t_outputSize])), (q_input, .inl (C 1, 600, .inl t_input))]) [0, 1] rfl
            have hD9 := hD.sub (ws' := [(q, .inr (11, [.int t_thrown, .ref q_net, .ref q_draft, .ref q_row, .int t_allowedMany, .ref q_joyAt, .int t_pointMany, .ref q_pointGain, .ref q_pointJoy, .ref q_pointSet, .ref q_pointTimes, .ref q_pointLight, .ref q_pointAt, .ref q_corner, .int t_cornerMany, .ref q_steps, .int t_stepMany, .int t_queued, .ref q_pairs, .ref q_layerOfPair, .int t_pairMany, .ref q_layerJoy, .int t_layerMany, .int t_climbSteps, .int t_ahead, .ref q_input, .int t_inputSize, .int t_textSize, .int t_next, .int t_start, .int t_token, .int t_value, .int t_errorFound, .int t_errorPlace, .ref q_slots, .ref q_isKept, .ref q_past, .int t_remembered, .ref q_output, .int t_outputSize])), (q_input, .inl (C 1, 600, .inl t_input))]) [0, 1] (by decide) rfl
            exact ih (1 : Int32) (x3 + 1) H locs ls hl9 hP9 hD9 hS hwp
  unfold wp_X11_isWord at hwp
  obtain ⟨H, hH⟩ : ∃ H, H = s.heap := ⟨_, rfl⟩
  obtain ⟨locs, hlo⟩ : ∃ z : List Loc, z = [] := ⟨_, rfl⟩
  have hP : va_P D vwCl [(q, .inr (11, [.int t_thrown, .ref q_net, .ref q_draft, .ref q_row, .int t_allowedMany, .ref q_joyAt, .int t_pointMany, .ref q_pointGain, .ref q_pointJoy, .ref q_pointSet, .ref q_pointTimes, .ref q_pointLight, .ref q_pointAt, .ref q_corner, .int t_cornerMany, .ref q_steps, .int t_stepMany, .int t_queued, .ref q_pairs, .ref q_layerOfPair, .int t_pairMany, .ref q_layerJoy, .int t_layerMany, .int t_climbSteps, .int t_ahead, .ref q_input, .int t_inputSize, .int t_textSize, .int t_next, .int t_start, .int t_token, .int t_value, .int t_errorFound, .int t_errorPlace, .ref q_slots, .ref q_isKept, .ref q_past, .int t_remembered, .ref q_output, .int t_outputSize])), (q_input, .inl (C 1, 600, .inl t_input))] H := by rw [hH]; exact hP
  have hD : va_D A [(q, .inr (11, [.int t_thrown, .ref q_net, .ref q_draft, .ref q_row, .int t_allowedMany, .ref q_joyAt, .int t_pointMany, .ref q_pointGain, .ref q_pointJoy, .ref q_pointSet, .ref q_pointTimes, .ref q_pointLight, .ref q_pointAt, .ref q_corner, .int t_cornerMany, .ref q_steps, .int t_stepMany, .int t_queued, .ref q_pairs, .ref q_layerOfPair, .int t_pairMany, .ref q_layerJoy, .int t_layerMany, .int t_climbSteps, .int t_ahead, .ref q_input, .int t_inputSize, .int t_textSize, .int t_next, .int t_start, .int t_token, .int t_value, .int t_errorFound, .int t_errorPlace, .ref q_slots, .ref q_isKept, .ref q_past, .int t_remembered, .ref q_output, .int t_outputSize])), (q_input, .inl (C 1, 600, .inl t_input))] := hD
  have hS : va_S A s.heap H locs := by rw [hH, hlo]; exact hS
  suffices K : W p l e (headSpec ws_X11_isWord rm_X11_isWord).room s m ([.ref q, .ref q1] : List Value).toArray below meth c H locs 0 0 (MQ below (q_X11_isWord D C q q_net q_draft q_row q_joyAt q_pointGain q_pointJoy q_pointSet q_pointTimes q_pointLight q_pointAt q_corner q_steps q_pairs q_layerOfPair q_layerJoy q_input q_slots q_isKept q_past q_output q1 t1_bs t_thrown t_allowedMany t_pointMany t_cornerMany t_stepMany t_queued t_pairMany t_layerMany t_climbSteps t_ahead t_inputSize t_textSize t_next t_start t_token t_value t_errorFound t_errorPlace t_remembered t_outputSize t_input Q A) ([.ref q, .ref q1] : List Value).toArray s 0 0 A) (F0 m 0 ls []) from by rw [hH, hlo] at K; exact K
  refine lv_aload_n hx hb dX11_isWord_0 rfl (lv_at hl 0 rfl) ?_
  have hPc := hP.sub (ws' := [(q, .inr (11, [.int t_thrown, .ref q_net, .ref q_draft, .ref q_row, .int t_allowedMany, .ref q_joyAt, .int t_pointMany, .ref q_pointGain, .ref q_pointJoy, .ref q_pointSet, .ref q_pointTimes, .ref q_pointLight, .ref q_pointAt, .ref q_corner, .int t_cornerMany, .ref q_steps, .int t_stepMany, .int t_queued, .ref q_pairs, .ref q_layerOfPair, .int t_pairMany, .ref q_layerJoy, .int t_layerMany, .int t_climbSteps, .int t_ahead, .ref q_input, .int t_inputSize, .int t_textSize, .int t_next, .int t_start, .int t_token, .int t_value, .int t_errorFound, .int t_errorPlace, .ref q_slots, .ref q_isKept, .ref q_past, .int t_remembered, .ref q_output, .int t_outputSize]))]) [0] rfl
  have hDc := hD.sub (ws' := [(q, .inr (11, [.int t_thrown, .ref q_net, .ref q_draft, .ref q_row, .int t_allowedMany, .ref q_joyAt, .int t_pointMany, .ref q_pointGain, .ref q_pointJoy, .ref q_pointSet, .ref q_pointTimes, .ref q_pointLight, .ref q_pointAt, .ref q_corner, .int t_cornerMany, .ref q_steps, .int t_stepMany, .int t_queued, .ref q_pairs, .ref q_layerOfPair, .int t_pairMany, .ref q_layerJoy, .int t_layerMany, .int t_climbSteps, .int t_ahead, .ref q_input, .int t_inputSize, .int t_textSize, .int t_next, .int t_start, .int t_token, .int t_value, .int t_errorFound, .int t_errorPlace, .ref q_slots, .ref q_isKept, .ref q_past, .int t_remembered, .ref q_output, .int t_outputSize]))]) [0] (by decide) rfl
  have hFc := va_free (wc := [(q, .inr (11, [.int t_thrown, .ref q_net, .ref q_draft, .ref q_row, .int t_allowedMany, .ref q_joyAt, .int t_pointMany, .ref q_pointGain, .ref q_pointJoy, .ref q_pointSet, .ref q_pointTimes, .ref q_pointLight, .ref q_pointAt, .ref q_corner, .int t_cornerMany, .ref q_steps, .int t_stepMany, .int t_queued, .ref q_pairs, .ref q_layerOfPair, .int t_pairMany, .ref q_layerJoy, .int t_layerMany, .int t_climbSteps, .int t_ahead, .ref q_input, .int t_inputSize, .int t_textSize, .int t_next, .int t_start, .int t_token, .int t_value, .int t_errorFound, .int t_errorPlace, .ref q_slots, .ref q_isKept, .ref q_past, .int t_remembered, .ref q_output, .int t_outputSize]))]) hD hS hA [0] rfl
  refine va_calli (va_runV (As := []) (rest := []) ⟨hx, hb, hml, hown, hts⟩ (met_X11_good l D C q q_net q_draft q_row q_joyAt q_pointGain q_pointJoy q_pointSet q_pointTimes q_pointLight q_pointAt q_corner q_steps q_pairs q_layerOfPair q_layerJoy q_input q_slots q_isKept q_past q_output t_thrown t_allowedMany t_pointMany t_cornerMany t_stepMany t_queued t_pairMany t_layerMany t_climbSteps t_ahead t_inputSize t_textSize t_next t_start t_token t_value t_errorFound t_errorPlace t_remembered t_outputSize H.size _ hwp) (cwV 0 hts gc_X11_245 rfl rfl rfl (by decide +kernel) ⟨Nat.le_of_ble_eq_true rfl, Nat.le_of_ble_eq_true rfl⟩) ⟨fun a U g mk q => by obtain ⟨q0, q1, qP, qK, qD⟩ := q; exact ⟨q0, q1, qP, va_K.moved (u := U) (U := U.calling g mk a) (Vm.Alike.refl U.vm) qK, qD⟩, va_recv hK hPc (ci := 11) (q0 := 0) rfl rfl, fun U hU hW => ⟨rfl, by rw [hU], by rw [hU]; exact hPc, va_K.moved hW.alike hK, hDc.weaken (fun _ _ _ _ => trivial)⟩⟩ rfl rfl hl.1 rfl (lv_room (Nat.le_of_ble_eq_true rfl)) dX11_isWord_1 ⟨Nat.zero_le _, Nat.zero_le _⟩) hS (fun q _ h => hFc q h) hFc (fun r1 u t H1 locs ht hvm hwp hB hz1 hk1 hS => ?_)
  obtain ⟨hP1, -, hD1⟩ := hB
  rw [ht] at hP1
  obtain ⟨hP, hD⟩ := va_join (wr := [(q_input, .inl (C 1, 600, .inl t_input))]) (w1 := [(q, .inr (11, [.int t_thrown, .ref q_net, .ref q_draft, .ref q_row, .int t_allowedMany, .ref q_joyAt, .int t_pointMany, .ref q_pointGain, .ref q_pointJoy, .ref q_pointSet, .ref q_pointTimes, .ref q_pointLight, .ref q_pointAt, .ref q_corner, .int t_cornerMany, .ref q_steps, .int t_stepMany, .int t_queued, .ref q_pairs, .ref q_layerOfPair, .int t_pairMany, .ref q_layerJoy, .int t_layerMany, .int t_climbSteps, .int t_ahead, .ref q_input, .int t_inputSize, .int t_textSize, .int t_next, .int t_start, .int t_token, .int t_value, .int t_errorFound, .int t_errorPlace, .ref q_slots, .ref q_isKept, .ref q_past, .int t_remembered, .ref q_output, .int t_outputSize]))]) hP hD [0] [1] rfl rfl (by decide) (by decide) hk1 hFc hP1 hD1
  generalize H1 = H at hP hS ⊢
  have hP : va_P D vwCl [(q_input, .inl (C 1, 600, .inl t_input)), (q, .inr (11, [.int t_thrown, .ref q_net, .ref q_draft, .ref q_row, .int t_allowedMany, .ref q_joyAt, .int t_pointMany, .ref q_pointGain, .ref q_pointJoy, .ref q_pointSet, .ref q_pointTimes, .ref q_pointLight, .ref q_pointAt, .ref q_corner, .int t_cornerMany, .ref q_steps, .int t_stepMany, .int t_queued, .ref q_pairs, .ref q_layerOfPair, .int t_pairMany, .ref q_layerJoy, .int t_layerMany, .int t_climbSteps, .int t_ahead, .ref q_input, .int t_inputSize, .int t_textSize, .int t_next, .int t_start, .int t_token, .int t_value, .int t_errorFound, .int t_errorPlace, .ref q_slots, .ref q_isKept, .ref q_past, .int t_remembered, .ref q_output, .int t_outputSize]))] H := hP
  have hD : va_D A [(q_input, .inl (C 1, 600, .inl t_input)), (q, .inr (11, [.int t_thrown, .ref q_net, .ref q_draft, .ref q_row, .int t_allowedMany, .ref q_joyAt, .int t_pointMany, .ref q_pointGain, .ref q_pointJoy, .ref q_pointSet, .ref q_pointTimes, .ref q_pointLight, .ref q_pointAt, .ref q_corner, .int t_cornerMany, .ref q_steps, .int t_stepMany, .int t_queued, .ref q_pairs, .ref q_layerOfPair, .int t_pairMany, .ref q_layerJoy, .int t_layerMany, .int t_climbSteps, .int t_ahead, .ref q_input, .int t_inputSize, .int t_textSize, .int t_next, .int t_start, .int t_token, .int t_value, .int t_errorFound, .int t_errorPlace, .ref q_slots, .ref q_isKept, .ref q_past, .int t_remembered, .ref q_output, .int t_outputSize]))] := hD
  refine lv_if_eq (tgt := 35) hx hb dX11_isWord_4 (by decide) (fun c4 => ?_) (fun c4 => ?_)
  · have hwp := hwp.1 c4
    refine lv_iconst (v := 0) hx hb dX11_isWord_35 (by decide) ?_
    refine lv_istore_n (lv' := [(2, .int (0 : Int32)), (0, .ref q), (1, .ref q1)]) hx hb dX11_isWord_36 rfl hl (by decide) rfl (fun ls hl => ?_)
    refine lv_iconst (v := 0) hx hb dX11_isWord_37 (by decide) ?_
    refine lv_istore_n (lv' := [(3, .int (0 : Int32)), (2, .int (0 : Int32)), (0, .ref q), (1, .ref q1)]) hx hb dX11_isWord_38 rfl hl (by decide) rfl (fun ls hl => ?_)
    have hl9 := lv_sub (l' := [(0, .ref q), (1, .ref q1), (2, .int (0 : Int32)), (3, .int (0 : Int32))]) hl [2, 3, 1, 0] rfl
    have hP9 := hP.sub (ws' := [(q, .inr (11, [.int t_thrown, .ref q_net, .ref q_draft, .ref q_row, .int t_allowedMany, .ref q_joyAt, .int t_pointMany, .ref q_pointGain, .ref q_pointJoy, .ref q_pointSet, .ref q_pointTimes, .ref q_pointLight, .ref q_pointAt, .ref q_corner, .int t_cornerMany, .ref q_steps, .int t_stepMany, .int t_queued, .ref q_pairs, .ref q_layerOfPair, .int t_pairMany, .ref q_layerJoy, .int t_layerMany, .int t_climbSteps, .int t_ahead, .ref q_input, .int t_inputSize, .int t_textSize, .int t_next, .int t_start, .int t_token, .int t_value, .int t_errorFound, .int t_errorPlace, .ref q_slots, .ref q_isKept, .ref q_past, .int t_remembered, .ref q_output, .int t_outputSize])), (q_input, .inl (C 1, 600, .inl t_input))]) [1, 0] rfl
    have hD9 := hD.sub (ws' := [(q, .inr (11, [.int t_thrown, .ref q_net, .ref q_draft, .ref q_row, .int t_allowedMany, .ref q_joyAt, .int t_pointMany, .ref q_pointGain, .ref q_pointJoy, .ref q_pointSet, .ref q_pointTimes, .ref q_pointLight, .ref q_pointAt, .ref q_corner, .int t_cornerMany, .ref q_steps, .int t_stepMany, .int t_queued, .ref q_pairs, .ref q_layerOfPair, .int t_pairMany, .ref q_layerJoy, .int t_layerMany, .int t_climbSteps, .int t_ahead, .ref q_input, .int t_inputSize, .int t_textSize, .int t_next, .int t_start, .int t_token, .int t_value, .int t_errorFound, .int t_errorPlace, .ref q_slots, .ref q_isKept, .ref q_past, .int t_remembered, .ref q_output, .int t_outputSize])), (q_input, .inl (C 1, 600, .inl t_input))]) [1, 0] (by decide) rfl
    obtain ⟨nn9, hwp⟩ := hwp
    refine HL39  nn9 (0 : Int32) (0 : Int32) H locs ls hl9 hP9 hD9 hS hwp
  · have hwp := hwp.2 c4
    refine lv_aload_n hx hb dX11_isWord_7 rfl (lv_at hl 0 rfl) ?_
    refine va_get (D := D) (ci := 11) (v := .int t_token) (C := RX11) (T := TX11) (N := 40) hx hb hts iwX11 hown hK hP 1 rfl rfl 30 (by decide) (hts (.fieldLink RX11 261 "ParetoDeskModel" "token" "I") wd_1532) (fun _ h9 => h9) rfl dX11_isWord_8 ?_
    refine lv_iconst (v := 1) hx hb dX11_isWord_11 (by decide) ?_
    refine lv_icmp_ne (tgt := 35) hx hb dX11_isWord_12 (by decide) (fun c12 => ?_) (fun c12 => ?_)
    · have hwp := hwp.1 c12
      refine lv_iconst (v := 0) hx hb dX11_isWord_35 (by decide) ?_
      refine lv_istore_n (lv' := [(2, .int (0 : Int32)), (0, .ref q), (1, .ref q1)]) hx hb dX11_isWord_36 rfl hl (by decide) rfl (fun ls hl => ?_)
      refine lv_iconst (v := 0) hx hb dX11_isWord_37 (by decide) ?_
      refine lv_istore_n (lv' := [(3, .int (0 : Int32)), (2, .int (0 : Int32)), (0, .ref q), (1, .ref q1)]) hx hb dX11_isWord_38 rfl hl (by decide) rfl (fun ls hl => ?_)
      have hl9 := lv_sub (l' := [(0, .ref q), (1, .ref q1), (2, .int (0 : Int32)), (3, .int (0 : Int32))]) hl [2, 3, 1, 0] rfl
      have hP9 := hP.sub (ws' := [(q, .inr (11, [.int t_thrown, .ref q_net, .ref q_draft, .ref q_row, .int t_allowedMany, .ref q_joyAt, .int t_pointMany, .ref q_pointGain, .ref q_pointJoy, .ref q_pointSet, .ref q_pointTimes, .ref q_pointLight, .ref q_pointAt, .ref q_corner, .int t_cornerMany, .ref q_steps, .int t_stepMany, .int t_queued, .ref q_pairs, .ref q_layerOfPair, .int t_pairMany, .ref q_layerJoy, .int t_layerMany, .int t_climbSteps, .int t_ahead, .ref q_input, .int t_inputSize, .int t_textSize, .int t_next, .int t_start, .int t_token, .int t_value, .int t_errorFound, .int t_errorPlace, .ref q_slots, .ref q_isKept, .ref q_past, .int t_remembered, .ref q_output, .int t_outputSize])), (q_input, .inl (C 1, 600, .inl t_input))]) [1, 0] rfl
      have hD9 := hD.sub (ws' := [(q, .inr (11, [.int t_thrown, .ref q_net, .ref q_draft, .ref q_row, .int t_allowedMany, .ref q_joyAt, .int t_pointMany, .ref q_pointGain, .ref q_pointJoy, .ref q_pointSet, .ref q_pointTimes, .ref q_pointLight, .ref q_pointAt, .ref q_corner, .int t_cornerMany, .ref q_steps, .int t_stepMany, .int t_queued, .ref q_pairs, .ref q_layerOfPair, .int t_pairMany, .ref q_layerJoy, .int t_layerMany, .int t_climbSteps, .int t_ahead, .ref q_input, .int t_inputSize, .int t_textSize, .int t_next, .int t_start, .int t_token, .int t_value, .int t_errorFound, .int t_errorPlace, .ref q_slots, .ref q_isKept, .ref q_past, .int t_remembered, .ref q_output, .int t_outputSize])), (q_input, .inl (C 1, 600, .inl t_input))]) [1, 0] (by decide) rfl
      obtain ⟨nn9, hwp⟩ := hwp
      refine HL39  nn9 (0 : Int32) (0 : Int32) H locs ls hl9 hP9 hD9 hS hwp
    · have hwp := hwp.2 c12
      refine lv_aload_n hx hb dX11_isWord_15 rfl (lv_at hl 0 rfl) ?_
      refine va_get (D := D) (ci := 11) (v := .int t_next) (C := RX11) (T := TX11) (N := 40) hx hb hts iwX11 hown hK hP 1 rfl rfl 28 (by decide) (hts (.fieldLink RX11 255 "ParetoDeskModel" "next" "I") wd_1530) (fun _ h9 => h9) rfl dX11_isWord_16 ?_
      refine lv_aload_n hx hb dX11_isWord_19 rfl (lv_at hl 0 rfl) ?_
      refine va_get (D := D) (ci := 11) (v := .int t_start) (C := RX11) (T := TX11) (N := 40) hx hb hts iwX11 hown hK hP 1 rfl rfl 29 (by decide) (hts (.fieldLink RX11 249 "ParetoDeskModel" "start" "I") wd_1531) (fun _ h9 => h9) rfl dX11_isWord_20 ?_
      refine lv_isub hx hb dX11_isWord_23 ?_
      refine lv_aload_n hx hb dX11_isWord_24 rfl (lv_at hl 1 rfl) ?_
      have hPc := hP.sub (ws' := []) [] rfl
      have hDc := hD.sub (ws' := []) [] (by decide) rfl
      have hFc := va_free (wc := []) hD hS hA [] rfl
      refine va_calli (va_runV (As := []) (rest := [.int (t_next - t_start)]) ⟨hx, hb, hml, hown, hts⟩ (met_J0_length_8abf5 l hst D C q1 t1_bs H.size _ hwp) (cwV 0 hts gc_X11_281 rfl rfl rfl (by decide +kernel) ⟨Nat.le_of_ble_eq_true rfl, Nat.le_of_ble_eq_true rfl⟩) ⟨fun a U g mk q => by obtain ⟨q0, q1, qP, qK, qD, qT, qS_q⟩ := q; exact ⟨q0, q1, qP, va_K.moved (u := U) (U := U.calling g mk a) (Vm.Alike.refl U.vm) qK, qD, qT.mv (U := U.calling g mk a) (State.WarmedH.refl U), qS_q.moved (U := U.calling g mk a) (Vm.Alike.refl U.vm)⟩, hs_q1.recv hS, fun U hU hW => ⟨rfl, by rw [hU], by rw [hU]; exact hPc, va_K.moved hW.alike hK, hDc.weaken (fun _ _ _ _ => trivial), hT.call hS hFc hU hW, hs_q1.call hS hFc hU hW⟩⟩ rfl rfl hl.1 rfl (lv_room (Nat.le_of_ble_eq_true rfl)) dX11_isWord_25 ⟨Nat.zero_le _, Nat.zero_le _⟩) hS (fun q _ h => hFc q h) hFc (fun r25 u t H1 locs ht hvm hwp hB hz1 hk1 hS => ?_)
      obtain ⟨hP1, -, hD1⟩ := hB
      rw [ht] at hP1
      obtain ⟨hP, hD⟩ := va_join (wr := [(q_input, .inl (C 1, 600, .inl t_input)), (q, .inr (11, [.int t_thrown, .ref q_net, .ref q_draft, .ref q_row, .int t_allowedMany, .ref q_joyAt, .int t_pointMany, .ref q_pointGain, .ref q_pointJoy, .ref q_pointSet, .ref q_pointTimes, .ref q_pointLight, .ref q_pointAt, .ref q_corner, .int t_cornerMany, .ref q_steps, .int t_stepMany, .int t_queued, .ref q_pairs, .ref q_layerOfPair, .int t_pairMany, .ref q_layerJoy, .int t_layerMany, .int t_climbSteps, .int t_ahead, .ref q_input, .int t_inputSize, .int t_textSize, .int t_next, .int t_start, .int t_token, .int t_value, .int t_errorFound, .int t_errorPlace, .ref q_slots, .ref q_isKept, .ref q_past, .int t_remembered, .ref q_output, .int t_outputSize]))]) (w1 := []) hP hD [] [0, 1] rfl rfl (by decide) (by decide) hk1 hFc hP1 hD1
      generalize H1 = H at hP hS ⊢
      have hP : va_P D vwCl [(q_input, .inl (C 1, 600, .inl t_input)), (q, .inr (11, [.int t_thrown, .ref q_net, .ref q_draft, .ref q_row, .int t_allowedMany, .ref q_joyAt, .int t_pointMany, .ref q_pointGain, .ref q_pointJoy, .ref q_pointSet, .ref q_pointTimes, .ref q_pointLight, .ref q_pointAt, .ref q_corner, .int t_cornerMany, .ref q_steps, .int t_stepMany, .int t_queued, .ref q_pairs, .ref q_layerOfPair, .int t_pairMany, .ref q_layerJoy, .int t_layerMany, .int t_climbSteps, .int t_ahead, .ref q_input, .int t_inputSize, .int t_textSize, .int t_next, .int t_start, .int t_token, .int t_value, .int t_errorFound, .int t_errorPlace, .ref q_slots, .ref q_isKept, .ref q_past, .int t_remembered, .ref q_output, .int t_outputSize]))] H := hP
      have hD : va_D A [(q_input, .inl (C 1, 600, .inl t_input)), (q, .inr (11, [.int t_thrown, .ref q_net, .ref q_draft, .ref q_row, .int t_allowedMany, .ref q_joyAt, .int t_pointMany, .ref q_pointGain, .ref q_pointJoy, .ref q_pointSet, .ref q_pointTimes, .ref q_pointLight, .ref q_pointAt, .ref q_corner, .int t_cornerMany, .ref q_steps, .int t_stepMany, .int t_queued, .ref q_pairs, .ref q_layerOfPair, .int t_pairMany, .ref q_layerJoy, .int t_layerMany, .int t_climbSteps, .int t_ahead, .ref q_input, .int t_inputSize, .int t_textSize, .int t_next, .int t_start, .int t_token, .int t_value, .int t_errorFound, .int t_errorPlace, .ref q_slots, .ref q_isKept, .ref q_past, .int t_remembered, .ref q_output, .int t_outputSize]))] := hD
      refine lv_icmp_ne (tgt := 35) hx hb dX11_isWord_28 (by decide) (fun c28 => ?_) (fun c28 => ?_)
      · have hwp := hwp.1 c28
        refine lv_iconst (v := 0) hx hb dX11_isWord_35 (by decide) ?_
        refine lv_istore_n (lv' := [(2, .int (0 : Int32)), (0, .ref q), (1, .ref q1)]) hx hb dX11_isWord_36 rfl hl (by decide) rfl (fun ls hl => ?_)
        refine lv_iconst (v := 0) hx hb dX11_isWord_37 (by decide) ?_
        refine lv_istore_n (lv' := [(3, .int (0 : Int32)), (2, .int (0 : Int32)), (0, .ref q), (1, .ref q1)]) hx hb dX11_isWord_38 rfl hl (by decide) rfl (fun ls hl => ?_)
        have hl9 := lv_sub (l' := [(0, .ref q), (1, .ref q1), (2, .int (0 : Int32)), (3, .int (0 : Int32))]) hl [2, 3, 1, 0] rfl
        have hP9 := hP.sub (ws' := [(q, .inr (11, [.int t_thrown, .ref q_net, .ref q_draft, .ref q_row, .int t_allowedMany, .ref q_joyAt, .int t_pointMany, .ref q_pointGain, .ref q_pointJoy, .ref q_pointSet, .ref q_pointTimes, .ref q_pointLight, .ref q_pointAt, .ref q_corner, .int t_cornerMany, .ref q_steps, .int t_stepMany, .int t_queued, .ref q_pairs, .ref q_layerOfPair, .int t_pairMany, .ref q_layerJoy, .int t_layerMany, .int t_climbSteps, .int t_ahead, .ref q_input, .int t_inputSize, .int t_textSize, .int t_next, .int t_start, .int t_token, .int t_value, .int t_errorFound, .int t_errorPlace, .ref q_slots, .ref q_isKept, .ref q_past, .int t_remembered, .ref q_output, .int t_outputSize])), (q_input, .inl (C 1, 600, .inl t_input))]) [1, 0] rfl
        have hD9 := hD.sub (ws' := [(q, .inr (11, [.int t_thrown, .ref q_net, .ref q_draft, .ref q_row, .int t_allowedMany, .ref q_joyAt, .int t_pointMany, .ref q_pointGain, .ref q_pointJoy, .ref q_pointSet, .ref q_pointTimes, .ref q_pointLight, .ref q_pointAt, .ref q_corner, .int t_cornerMany, .ref q_steps, .int t_stepMany, .int t_queued, .ref q_pairs, .ref q_layerOfPair, .int t_pairMany, .ref q_layerJoy, .int t_layerMany, .int t_climbSteps, .int t_ahead, .ref q_input, .int t_inputSize, .int t_textSize, .int t_next, .int t_start, .int t_token, .int t_value, .int t_errorFound, .int t_errorPlace, .ref q_slots, .ref q_isKept, .ref q_past, .int t_remembered, .ref q_output, .int t_outputSize])), (q_input, .inl (C 1, 600, .inl t_input))]) [1, 0] (by decide) rfl
        obtain ⟨nn9, hwp⟩ := hwp
        refine HL39  nn9 (0 : Int32) (0 : Int32) H locs ls hl9 hP9 hD9 hS hwp
      · have hwp := hwp.2 c28
        refine lv_iconst (v := 1) hx hb dX11_isWord_31 (by decide) ?_
        refine lv_goto (tgt := 36) hx hb dX11_isWord_32 (by decide) ?_
        refine lv_istore_n (lv' := [(2, .int (1 : Int32)), (0, .ref q), (1, .ref q1)]) hx hb dX11_isWord_36 rfl hl (by decide) rfl (fun ls hl => ?_)
        refine lv_iconst (v := 0) hx hb dX11_isWord_37 (by decide) ?_
        refine lv_istore_n (lv' := [(3, .int (0 : Int32)), (2, .int (1 : Int32)), (0, .ref q), (1, .ref q1)]) hx hb dX11_isWord_38 rfl hl (by decide) rfl (fun ls hl => ?_)
        have hl9 := lv_sub (l' := [(0, .ref q), (1, .ref q1), (2, .int (1 : Int32)), (3, .int (0 : Int32))]) hl [2, 3, 1, 0] rfl
        have hP9 := hP.sub (ws' := [(q, .inr (11, [.int t_thrown, .ref q_net, .ref q_draft, .ref q_row, .int t_allowedMany, .ref q_joyAt, .int t_pointMany, .ref q_pointGain, .ref q_pointJoy, .ref q_pointSet, .ref q_pointTimes, .ref q_pointLight, .ref q_pointAt, .ref q_corner, .int t_cornerMany, .ref q_steps, .int t_stepMany, .int t_queued, .ref q_pairs, .ref q_layerOfPair, .int t_pairMany, .ref q_layerJoy, .int t_layerMany, .int t_climbSteps, .int t_ahead, .ref q_input, .int t_inputSize, .int t_textSize, .int t_next, .int t_start, .int t_token, .int t_value, .int t_errorFound, .int t_errorPlace, .ref q_slots, .ref q_isKept, .ref q_past, .int t_remembered, .ref q_output, .int t_outputSize])), (q_input, .inl (C 1, 600, .inl t_input))]) [1, 0] rfl
        have hD9 := hD.sub (ws' := [(q, .inr (11, [.int t_thrown, .ref q_net, .ref q_draft, .ref q_row, .int t_allowedMany, .ref q_joyAt, .int t_pointMany, .ref q_pointGain, .ref q_pointJoy, .ref q_pointSet, .ref q_pointTimes, .ref q_pointLight, .ref q_pointAt, .ref q_corner, .int t_cornerMany, .ref q_steps, .int t_stepMany, .int t_queued, .ref q_pairs, .ref q_layerOfPair, .int t_pairMany, .ref q_layerJoy, .int t_layerMany, .int t_climbSteps, .int t_ahead, .ref q_input, .int t_inputSize, .int t_textSize, .int t_next, .int t_start, .int t_token, .int t_value, .int t_errorFound, .int t_errorPlace, .ref q_slots, .ref q_isKept, .ref q_past, .int t_remembered, .ref q_output, .int t_outputSize])), (q_input, .inl (C 1, 600, .inl t_input))]) [1, 0] (by decide) rfl
        obtain ⟨nn9, hwp⟩ := hwp
        refine HL39  nn9 (1 : Int32) (0 : Int32) H locs ls hl9 hP9 hD9 hS hwp
abbrev ws_X11_numberBehind : List Cond := .code yX11_numberBehind cX11_numberBehind 4 (some .int) :: WALL
theorem gc_X11_299 : GoodIn WALL (wsV RX11 299 RX11 yX11_isWord ws_X11_isWord) := gc_v wd_1672 wd_1674 wd_48 wd_124 wd_1675
theorem gc_X11_303 : GoodIn WALL (wsV RX11 303 RX11 yX11_number ws_X11_number) := gc_v wd_1690 wd_1692 wd_52 wd_124 wd_1693
abbrev rm_X11_numberBehind : Room := { frames := 5, cells := 0, slots := 0, locals := 108 }
def wp_X11_numberBehind_b13 (t1_bs : List Int32) (t_textSize : Int32) (t_input : Nat → Int32) (Q : Int32 → Int32 → Int32 → Int32 → Int32 → Int32 → Int32 → Prop) (x2 : Int32) (x3 : Int32) (t_next : Int32) (t_start : Int32) (t_token : Int32) (t_value : Int32) (t_errorFound : Int32) (t_errorPlace : Int32) : Prop := wp_X11_goOn t_textSize t_next t_start t_token t_value t_errorFound t_input (fun (u14_1 : Int32) (u14_2 : Int32) (u14_3 : Int32) (u14_4 : Int32) => wp_X11_number x2 x3 t_textSize u14_1 u14_2 u14_3 u14_4 t_errorFound t_errorPlace t_input (fun (r20 : Int32) (u20_5 : Int32) (u20_6 : Int32) (u20_7 : Int32) (u20_8 : Int32) (u20_9 : Int32) (u20_10 : Int32) => Q r20 u20_5 u20_6 u20_7 u20_8 u20_9 u20_10))
def wp_X11_numberBehind (p2 : Int32) (p3 : Int32) (t1_bs : List Int32) (t_textSize : Int32) (t_next : Int32) (t_start : Int32) (t_token : Int32) (t_value : Int32) (t_errorFound : Int32) (t_errorPlace : Int32) (t_input : Nat → Int32) (Q : Int32 → Int32 → Int32 → Int32 → Int32 → Int32 → Int32 → Prop) : Prop := wp_X11_isWord t1_bs t_next t_start t_token t_errorFound t_input (fun (r2 : Int32) => (¬ r2 = 0 → (wp_X11_numberBehind_b13 t1_bs t_textSize t_input Q p2 p3 t_next t_start t_token t_value t_errorFound t_errorPlace)) ∧ (r2 = 0 → (wp_X11_errs (1 : Int32) t_start t_errorFound t_errorPlace (fun (u10_11 : Int32) (u10_12 : Int32) => wp_X11_numberBehind_b13 t1_bs t_textSize t_input Q p2 p3 t_next t_start t_token t_value u10_11 u10_12))))
abbrev w_X11_numberBehind (C : Nat → ClassId) (q : Nat) (q_net : Nat) (q_draft : Nat) (q_row : Nat) (q_joyAt : Nat) (q_pointGain : Nat) (q_pointJoy : Nat) (q_pointSet : Nat) (q_pointTimes : Nat) (q_pointLight : Nat) (q_pointAt : Nat) (q_corner : Nat) (q_steps : Nat) (q_pairs : Nat) (q_layerOfPair : Nat) (q_layerJoy : Nat) (q_input : Nat) (q_slots : Nat) (q_isKept : Nat) (q_past : Nat) (q_output : Nat) (q1 : Nat) (t1_bs : List Int32) (t_thrown : Int32) (t_allowedMany : Int32) (t_pointMany : Int32) (t_cornerMany : Int32) (t_stepMany : Int32) (t_queued : Int32) (t_pairMany : Int32) (t_layerMany : Int32) (t_climbSteps : Int32) (t_ahead : Int32) (t_inputSize : Int32) (t_textSize : Int32) (t_next : Int32) (t_start : Int32) (t_token : Int32) (t_value : Int32) (t_errorFound : Int32) (t_errorPlace : Int32) (t_remembered : Int32) (t_outputSize : Int32) (t_input : Nat → Int32) : va_W := [(q, .inr (11, [.int t_thrown, .ref q_net, .ref q_draft, .ref q_row, .int t_allowedMany, .ref q_joyAt, .int t_pointMany, .ref q_pointGain, .ref q_pointJoy, .ref q_pointSet, .ref q_pointTimes, .ref q_pointLight, .ref q_pointAt, .ref q_corner, .int t_cornerMany, .ref q_steps, .int t_stepMany, .int t_queued, .ref q_pairs, .ref q_layerOfPair, .int t_pairMany, .ref q_layerJoy, .int t_layerMany, .int t_climbSteps, .int t_ahead, .ref q_input, .int t_inputSize, .int t_textSize, .int t_next, .int t_start, .int t_token, .int t_value, .int t_errorFound, .int t_errorPlace, .ref q_slots, .ref q_isKept, .ref q_past, .int t_remembered, .ref q_output, .int t_outputSize])), (q_input, .inl (C 1, 600, .inl t_input))]
abbrev q_X11_numberBehind (D : va_G) (C : Nat → ClassId) (q : Nat) (q_net : Nat) (q_draft : Nat) (q_row : Nat) (q_joyAt : Nat) (q_pointGain : Nat) (q_pointJoy : Nat) (q_pointSet : Nat) (q_pointTimes : Nat) (q_pointLight : Nat) (q_pointAt : Nat) (q_corner : Nat) (q_steps : Nat) (q_pairs : Nat) (q_layerOfPair : Nat) (q_layerJoy : Nat) (q_input : Nat) (q_slots : Nat) (q_isKept : Nat) (q_past : Nat) (q_output : Nat) (q1 : Nat) (t1_bs : List Int32) (t_thrown : Int32) (t_allowedMany : Int32) (t_pointMany : Int32) (t_cornerMany : Int32) (t_stepMany : Int32) (t_queued : Int32) (t_pairMany : Int32) (t_layerMany : Int32) (t_climbSteps : Int32) (t_ahead : Int32) (t_inputSize : Int32) (t_textSize : Int32) (t_remembered : Int32) (t_outputSize : Int32) (t_input : Nat → Int32) (Q : Int32 → Int32 → Int32 → Int32 → Int32 → Int32 → Int32 → Prop) (A : Nat → Prop) : Array Value → State → Outcome → State → Prop := va_Qi (fun (r : Int32) (u : Int32 × Int32 × Int32 × Int32 × Int32 × Int32) => Q r u.1 u.2.1 u.2.2.1 u.2.2.2.1 u.2.2.2.2.1 u.2.2.2.2.2) (fun (u : Int32 × Int32 × Int32 × Int32 × Int32 × Int32) (t : State) => va_P D vwCl (w_X11_numberBehind C q q_net q_draft q_row q_joyAt q_pointGain q_pointJoy q_pointSet q_pointTimes q_pointLight q_pointAt q_corner q_steps q_pairs q_layerOfPair q_layerJoy q_input q_slots q_isKept q_past q_output q1 t1_bs t_thrown t_allowedMany t_pointMany t_cornerMany t_stepMany t_queued t_pairMany t_layerMany t_climbSteps t_ahead t_inputSize t_textSize u.1 u.2.1 u.2.2.1 u.2.2.2.1 u.2.2.2.2.1 u.2.2.2.2.2 t_remembered t_outputSize t_input) t.heap ∧ va_K D vwCl (tyL C) t ∧ va_D A (w_X11_numberBehind C q q_net q_draft q_row q_joyAt q_pointGain q_pointJoy q_pointSet q_pointTimes q_pointLight q_pointAt q_corner q_steps q_pairs q_layerOfPair q_layerJoy q_input q_slots q_isKept q_past q_output q1 t1_bs t_thrown t_allowedMany t_pointMany t_cornerMany t_stepMany t_queued t_pairMany t_layerMany t_climbSteps t_ahead t_inputSize t_textSize u.1 u.2.1 u.2.2.1 u.2.2.2.1 u.2.2.2.2.1 u.2.2.2.2.2 t_remembered t_outputSize t_input)) A
set_option maxHeartbeats 4000000 in
set_option maxRecDepth 100000 in
theorem met_X11_numberBehind (l : Launch) (hst : l.stackTraces = false) (D : va_G) (C : Nat → ClassId) (q : Nat) (q_net : Nat) (q_draft : Nat) (q_row : Nat) (q_joyAt : Nat) (q_pointGain : Nat) (q_pointJoy : Nat) (q_pointSet : Nat) (q_pointTimes : Nat) (q_pointLight : Nat) (q_pointAt : Nat) (q_corner : Nat) (q_steps : Nat) (q_pairs : Nat) (q_layerOfPair : Nat) (q_layerJoy : Nat) (q_input : Nat) (q_slots : Nat) (q_isKept : Nat) (q_past : Nat) (q_output : Nat) (q1 : Nat) (p2 : Int32) (p3 : Int32) (t1_bs : List Int32) (t_thrown : Int32) (t_allowedMany : Int32) (t_pointMany : Int32) (t_cornerMany : Int32) (t_stepMany : Int32) (t_queued : Int32) (t_pairMany : Int32) (t_layerMany : Int32) (t_climbSteps : Int32) (t_ahead : Int32) (t_inputSize : Int32) (t_textSize : Int32) (t_next : Int32) (t_start : Int32) (t_token : Int32) (t_value : Int32) (t_errorFound : Int32) (t_errorPlace : Int32) (t_remembered : Int32) (t_outputSize : Int32) (t_input : Nat → Int32) (sz : Nat) (Q : Int32 → Int32 → Int32 → Int32 → Int32 → Int32 → Int32 → Prop) (hwp : wp_X11_numberBehind p2 p3 t1_bs t_textSize t_next t_start t_token t_value t_errorFound t_errorPlace t_input Q) : Met l yX11_numberBehind ws_X11_numberBehind rm_X11_numberBehind (va_Pc [.ref q, .ref q1, .int p2, .int p3] (fun U => U.heap.size = sz ∧ va_P D vwCl (w_X11_numberBehind C q q_net q_draft q_row q_joyAt q_pointGain q_pointJoy q_pointSet q_pointTimes q_pointLight q_pointAt q_corner q_steps q_pairs q_layerOfPair q_layerJoy q_input q_slots q_isKept q_past q_output q1 t1_bs t_thrown t_allowedMany t_pointMany t_cornerMany t_stepMany t_queued t_pairMany t_layerMany t_climbSteps t_ahead t_inputSize t_textSize t_next t_start t_token t_value t_errorFound t_errorPlace t_remembered t_outputSize t_input) U.heap ∧ va_K D vwCl (tyL C) U ∧ va_D (fun _ => True) (w_X11_numberBehind C q q_net q_draft q_row q_joyAt q_pointGain q_pointJoy q_pointSet q_pointTimes q_pointLight q_pointAt q_corner q_steps q_pairs q_layerOfPair q_layerJoy q_input q_slots q_isKept q_past q_output q1 t1_bs t_thrown t_allowedMany t_pointMany t_cornerMany t_stepMany t_queued t_pairMany t_layerMany t_climbSteps t_ahead t_inputSize t_textSize t_next t_start t_token t_value t_errorFound t_errorPlace t_remembered t_outputSize t_input) ∧ TX (va_A (w_X11_numberBehind C q q_net q_draft q_row q_joyAt q_pointGain q_pointJoy q_pointSet q_pointTimes q_pointLight q_pointAt q_corner q_steps q_pairs q_layerOfPair q_layerJoy q_input q_slots q_isKept q_past q_output q1 t1_bs t_thrown t_allowedMany t_pointMany t_cornerMany t_stepMany t_queued t_pairMany t_layerMany t_climbSteps t_ahead t_inputSize t_textSize t_next t_start t_token t_value t_errorFound t_errorPlace t_remembered t_outputSize t_input) sz) U U.heap ∧ StrC t1_bs q1 (va_A (w_X11_numberBehind C q q_net q_draft q_row q_joyAt q_pointGain q_pointJoy q_pointSet q_pointTimes q_pointLight q_pointAt q_corner q_steps q_pairs q_layerOfPair q_layerJoy q_input q_slots q_isKept q_past q_output q1 t1_bs t_thrown t_allowedMany t_pointMany t_cornerMany t_stepMany t_queued t_pairMany t_layerMany t_climbSteps t_ahead t_inputSize t_textSize t_next t_start t_token t_value t_errorFound t_errorPlace t_remembered t_outputSize t_input) sz) U U.heap)) (q_X11_numberBehind D C q q_net q_draft q_row q_joyAt q_pointGain q_pointJoy q_pointSet q_pointTimes q_pointLight q_pointAt q_corner q_steps q_pairs q_layerOfPair q_layerJoy q_input q_slots q_isKept q_past q_output q1 t1_bs t_thrown t_allowedMany t_pointMany t_cornerMany t_stepMany t_queued t_pairMany t_layerMany t_climbSteps t_ahead t_inputSize t_textSize t_remembered t_outputSize t_input Q (va_A (w_X11_numberBehind C q q_net q_draft q_row q_joyAt q_pointGain q_pointJoy q_pointSet q_pointTimes q_pointLight q_pointAt q_corner q_steps q_pairs q_layerOfPair q_layerJoy q_input q_slots q_isKept q_past q_output q1 t1_bs t_thrown t_allowedMany t_pointMany t_cornerMany t_stepMany t_queued t_pairMany t_layerMany t_climbSteps t_ahead t_inputSize t_textSize t_next t_start t_token t_value t_errorFound t_errorPlace t_remembered t_outputSize t_input) sz)) 0 0 (va_A (w_X11_numberBehind C q q_net q_draft q_row q_joyAt q_pointGain q_pointJoy q_pointSet q_pointTimes q_pointLight q_pointAt q_corner q_steps q_pairs q_layerOfPair q_layerJoy q_input q_slots q_isKept q_past q_output q1 t1_bs t_thrown t_allowedMany t_pointMany t_cornerMany t_stepMany t_queued t_pairMany t_layerMany t_climbSteps t_ahead t_inputSize t_textSize t_next t_start t_token t_value t_errorFound t_errorPlace t_remembered t_outputSize t_input) sz) := by
  refine Met.ofW (cc := cX11_numberBehind) (maxL := 4) (ret := (some .int)) (by decide) rfl ?_
  intro p e s m args below meth c s₁ B hml hv
  obtain ⟨rfl, hsz, hP, hK, hD0, hT, hs_q1⟩ := hv
  have hx := B.exec
  have hb := B.bytes
  have hr := B.returns
  have hts : ∀ w ∈ WALL, w.before _ s = true := fun w h => atoms_spec (ws := ws_X11_numberBehind) B.pre w (List.mem_cons_of_mem _ h)
  have hown : s.vm.findClass RX11 = some m.cls := findClass_of_methodNamed B.named
  have hlocks := B.notSynchronized
  subst hsz
  have hD := hD0.self (sz := s.heap.size)
  generalize hAe : va_A (w_X11_numberBehind C q q_net q_draft q_row q_joyAt q_pointGain q_pointJoy q_pointSet q_pointTimes q_pointLight q_pointAt q_corner q_steps q_pairs q_layerOfPair q_layerJoy q_input q_slots q_isKept q_past q_output q1 t1_bs t_thrown t_allowedMany t_pointMany t_cornerMany t_stepMany t_queued t_pairMany t_layerMany t_climbSteps t_ahead t_inputSize t_textSize t_next t_start t_token t_value t_errorFound t_errorPlace t_remembered t_outputSize t_input) s.heap.size = A at hD ⊢ hT hs_q1
  have hA : ∀ q : Nat, s.heap.size ≤ q → A q := fun q h => by rw [← hAe]; exact Or.inr h
  have hS : va_S A s.heap s.heap [] := va_S.rf
  have hl := lv_entry ([.ref q, .ref q1, .int p2, .int p3]) (n := 4) (Nat.le_of_ble_eq_true rfl)
  rw [lg_entry_eq]
  generalize (lg_sl ([.ref q, .ref q1, .int p2, .int p3]) ++ List.replicate (4 - (lg_sl ([.ref q, .ref q1, .int p2, .int p3])).length) Slot.unset).toArray = ls at hl ⊢
  have hl : lv_has ls 4 [(0, .ref q), (1, .ref q1), (2, .int p2), (3, .int p3)] := hl
  have HB13 : ∀  (x2 : Int32) (x3 : Int32) (t_next : Int32) (t_start : Int32) (t_token : Int32) (t_value : Int32) (t_errorFound : Int32) (t_errorPlace : Int32) (H : Heap) (locs : List Loc) (ls : Array Slot), lv_has ls 4 [(0, .ref q), (2, .int x2), (3, .int x3)] → va_P D vwCl [(q, .inr (11, [.int t_thrown, .ref q_net, .ref q_draft, .ref q_row, .int t_allowedMany, .ref q_joyAt, .int t_pointMany, .ref q_pointGain, .ref q_pointJoy, .ref q_pointSet, .ref q_pointTimes, .ref q_pointLight, .ref q_pointAt, .ref q_corner, .int t_cornerMany, .ref q_steps, .int t_stepMany, .int t_queued, .ref q_pairs, .ref q_layerOfPair, .int t_pairMany, .ref q_layerJoy, .int t_layerMany, .int t_climbSteps, .int t_ahead, .ref q_input, .int t_inputSize, .int t_textSize, .int t_next, .int t_start, .int t_token, .int t_value, .int t_errorFound, .int t_errorPlace, .ref q_slots, .ref q_isKept, .ref q_past, .int t_remembered, .ref q_output, .int t_outputSize])), (q_input, .inl (C 1, 600, .inl t_input))] H → va_D A [(q, .inr (11, [.int t_thrown, .ref q_net, .ref q_draft, .ref q_row, .int t_allowedMany, .ref q_joyAt, .int t_pointMany, .ref q_pointGain, .ref q_pointJoy, .ref q_pointSet, .ref q_pointTimes, .ref q_pointLight, .ref q_pointAt, .ref q_corner, .int t_cornerMany, .ref q_steps, .int t_stepMany, .int t_queued, .ref q_pairs, .ref q_layerOfPair, .int t_pairMany, .ref q_layerJoy, .int t_layerMany, .int t_climbSteps, .int t_ahead, .ref q_input, .int t_inputSize, .int t_textSize, .int t_next, .int t_start, .int t_token, .int t_value, .int t_errorFound, .int t_errorPlace, .ref q_slots, .ref q_isKept, .ref q_past, .int t_remembered, .ref q_output, .int t_outputSize])), (q_input, .inl (C 1, 600, .inl t_input))] → va_S A s.heap H locs → wp_X11_numberBehind_b13 t1_bs t_textSize t_input Q x2 x3 t_next t_start t_token t_value t_errorFound t_errorPlace → W p l e (headSpec ws_X11_numberBehind rm_X11_numberBehind).room s m ([.ref q, .ref q1, .int p2, .int p3] : List Value).toArray below meth c H locs 0 0 (MQ below (q_X11_numberBehind D C q q_net q_draft q_row q_joyAt q_pointGain q_pointJoy q_pointSet q_pointTimes q_pointLight q_pointAt q_corner q_steps q_pairs q_layerOfPair q_layerJoy q_input q_slots q_isKept q_past q_output q1 t1_bs t_thrown t_allowedMany t_pointMany t_cornerMany t_stepMany t_queued t_pairMany t_layerMany t_climbSteps t_ahead t_inputSize t_textSize t_remembered t_outputSize t_input Q A) ([.ref q, .ref q1, .int p2, .int p3] : List Value).toArray s 0 0 A) (F0 m 13 ls []) := by
    intro x2 x3 t_next t_start t_token t_value t_errorFound t_errorPlace H locs ls hl hP hD hS hwp
    unfold wp_X11_numberBehind_b13 at hwp
    refine lv_aload_n hx hb dX11_numberBehind_13 rfl (lv_at hl 0 rfl) ?_
    have hPc := hP.sub (ws' := [(q, .inr (11, [.int t_thrown, .ref q_net, .ref q_draft, .ref q_row, .int t_allowedMany, .ref q_joyAt, .int t_pointMany, .ref q_pointGain, .ref q_pointJoy, .ref q_pointSet, .ref q_pointTimes, .ref q_pointLight, .ref q_pointAt, .ref q_corner, .int t_cornerMany, .ref q_steps, .int t_stepMany, .int t_queued, .ref q_pairs, .ref q_layerOfPair, .int t_pairMany, .ref q_layerJoy, .int t_layerMany, .int t_climbSteps, .int t_ahead, .ref q_input, .int t_inputSize, .int t_textSize, .int t_next, .int t_start, .int t_token, .int t_value, .int t_errorFound, .int t_errorPlace, .ref q_slots, .ref q_isKept, .ref q_past, .int t_remembered, .ref q_output, .int t_outputSize])), (q_input, .inl (C 1, 600, .inl t_input))]) [0, 1] rfl
    have hDc := hD.sub (ws' := [(q, .inr (11, [.int t_thrown, .ref q_net, .ref q_draft, .ref q_row, .int t_allowedMany, .ref q_joyAt, .int t_pointMany, .ref q_pointGain, .ref q_pointJoy, .ref q_pointSet, .ref q_pointTimes, .ref q_pointLight, .ref q_pointAt, .ref q_corner, .int t_cornerMany, .ref q_steps, .int t_stepMany, .int t_queued, .ref q_pairs, .ref q_layerOfPair, .int t_pairMany, .ref q_layerJoy, .int t_layerMany, .int t_climbSteps, .int t_ahead, .ref q_input, .int t_inputSize, .int t_textSize, .int t_next, .int t_start, .int t_token, .int t_value, .int t_errorFound, .int t_errorPlace, .ref q_slots, .ref q_isKept, .ref q_past, .int t_remembered, .ref q_output, .int t_outputSize])), (q_input, .inl (C 1, 600, .inl t_input))]) [0, 1] (by decide) rfl
    have hFc := va_free (wc := [(q, .inr (11, [.int t_thrown, .ref q_net, .ref q_draft, .ref q_row, .int t_allowedMany, .ref q_joyAt, .int t_pointMany, .ref q_pointGain, .ref q_pointJoy, .ref q_pointSet, .ref q_pointTimes, .ref q_pointLight, .ref q_pointAt, .ref q_corner, .int t_cornerMany, .ref q_steps, .int t_stepMany, .int t_queued, .ref q_pairs, .ref q_layerOfPair, .int t_pairMany, .ref q_layerJoy, .int t_layerMany, .int t_climbSteps, .int t_ahead, .ref q_input, .int t_inputSize, .int t_textSize, .int t_next, .int t_start, .int t_token, .int t_value, .int t_errorFound, .int t_errorPlace, .ref q_slots, .ref q_isKept, .ref q_past, .int t_remembered, .ref q_output, .int t_outputSize])), (q_input, .inl (C 1, 600, .inl t_input))]) hD hS hA [0, 1] rfl
    refine va_callv (va_runV (As := []) (rest := []) ⟨hx, hb, hml, hown, hts⟩ (met_X11_goOn l D C q q_net q_draft q_row q_joyAt q_pointGain q_pointJoy q_pointSet q_pointTimes q_pointLight q_pointAt q_corner q_steps q_pairs q_layerOfPair q_layerJoy q_input q_slots q_isKept q_past q_output t_thrown t_allowedMany t_pointMany t_cornerMany t_stepMany t_queued t_pairMany t_layerMany t_climbSteps t_ahead t_inputSize t_textSize t_next t_start t_token t_value t_errorFound t_errorPlace t_remembered t_outputSize t_input H.size _ hwp) (cwV 0 hts gc_X11_296 rfl rfl rfl (by decide +kernel) ⟨Nat.le_of_ble_eq_true rfl, Nat.le_of_ble_eq_true rfl⟩) ⟨fun a U g mk q => by obtain ⟨q0, q1, qP, qK, qD⟩ := q; exact ⟨q0, q1, qP, va_K.moved (u := U) (U := U.calling g mk a) (Vm.Alike.refl U.vm) qK, qD⟩, va_recv hK hPc (ci := 11) (q0 := 0) rfl rfl, fun U hU hW => ⟨rfl, by rw [hU], by rw [hU]; exact hPc, va_K.moved hW.alike hK, hDc.weaken (fun _ _ _ _ => trivial)⟩⟩ rfl rfl hl.1 rfl (lv_room (Nat.le_of_ble_eq_true rfl)) dX11_numberBehind_14 ⟨Nat.zero_le _, Nat.zero_le _⟩) hS (fun q _ h => hFc q h) hFc (fun u t H1 locs ht hvm hwp hB hz1 hk1 hS => ?_)
    obtain ⟨u14_1, u14_2, u14_3, u14_4⟩ := u
    obtain ⟨hP1, -, hD1⟩ := hB
    rw [ht] at hP1
    obtain ⟨hP, hD⟩ := va_join (wr := []) (w1 := [(q, .inr (11, [.int t_thrown, .ref q_net, .ref q_draft, .ref q_row, .int t_allowedMany, .ref q_joyAt, .int t_pointMany, .ref q_pointGain, .ref q_pointJoy, .ref q_pointSet, .ref q_pointTimes, .ref q_pointLight, .ref q_pointAt, .ref q_corner, .int t_cornerMany, .ref q_steps, .int t_stepMany, .int t_queued, .ref q_pairs, .ref q_layerOfPair, .int t_pairMany, .ref q_layerJoy, .int t_layerMany, .int t_climbSteps, .int t_ahead, .ref q_input, .int t_inputSize, .int t_textSize, .int u14_1, .int u14_2, .int u14_3, .int u14_4, .int t_errorFound, .int t_errorPlace, .ref q_slots, .ref q_isKept, .ref q_past, .int t_remembered, .ref q_output, .int t_outputSize])), (q_input, .inl (C 1, 600, .inl t_input))]) hP hD [0, 1] [] rfl rfl (by decide) (by decide) hk1 hFc hP1 hD1
    generalize H1 = H at hP hS ⊢
    have hP : va_P D vwCl [(q, .inr (11, [.int t_thrown, .ref q_net, .ref q_draft, .ref q_row, .int t_allowedMany, .ref q_joyAt, .int t_pointMany, .ref q_pointGain, .ref q_pointJoy, .ref q_pointSet, .ref q_pointTimes, .ref q_pointLight, .ref q_pointAt, .ref q_corner, .int t_cornerMany, .ref q_steps, .int t_stepMany, .int t_queued, .ref q_pairs, .ref q_layerOfPair, .int t_pairMany, .ref q_layerJoy, .int t_layerMany, .int t_climbSteps, .int t_ahead, .ref q_input, .int t_inputSize, .int t_textSize, .int u14_1, .int u14_2, .int u14_3, .int u14_4, .int t_errorFound, .int t_errorPlace, .ref q_slots, .ref q_isKept, .ref q_past, .int t_remembered, .ref q_output, .int t_outputSize])), (q_input, .inl (C 1, 600, .inl t_input))] H := hP
    have hD : va_D A [(q, .inr (11, [.int t_thrown, .ref q_net, .ref q_draft, .ref q_row, .int t_allowedMany, .ref q_joyAt, .int t_pointMany, .ref q_pointGain, .ref q_pointJoy, .ref q_pointSet, .ref q_pointTimes, .ref q_pointLight, .ref q_pointAt, .ref q_corner, .int t_cornerMany, .ref q_steps, .int t_stepMany, .int t_queued, .ref q_pairs, .ref q_layerOfPair, .int t_pairMany, .ref q_layerJoy, .int t_layerMany, .int t_climbSteps, .int t_ahead, .ref q_input, .int t_inputSize, .int t_textSize, .int u14_1, .int u14_2, .int u14_3, .int u14_4, .int t_errorFound, .int t_errorPlace, .ref q_slots, .ref q_isKept, .ref q_past, .int t_remembered, .ref q_output, .int t_outputSize])), (q_input, .inl (C 1, 600, .inl t_input))] := hD
    refine lv_aload_n hx hb dX11_numberBehind_17 rfl (lv_at hl 0 rfl) ?_
    refine lv_iload_n hx hb dX11_numberBehind_18 rfl (lv_at hl 1 rfl) ?_
    refine lv_iload_n hx hb dX11_numberBehind_19 rfl (lv_at hl 2 rfl) ?_
    have hPc := hP.sub (ws' := [(q, .inr (11, [.int t_thrown, .ref q_net, .ref q_draft, .ref q_row, .int t_allowedMany, .ref q_joyAt, .int t_pointMany, .ref q_pointGain, .ref q_pointJoy, .ref q_pointSet, .ref q_pointTimes, .ref q_pointLight, .ref q_pointAt, .ref q_corner, .int t_cornerMany, .ref q_steps, .int t_stepMany, .int t_queued, .ref q_pairs, .ref q_layerOfPair, .int t_pairMany, .ref q_layerJoy, .int t_layerMany, .int t_climbSteps, .int t_ahead, .ref q_input, .int t_inputSize, .int t_textSize, .int u14_1, .int u14_2, .int u14_3, .int u14_4, .int t_errorFound, .int t_errorPlace, .ref q_slots, .ref q_isKept, .ref q_past, .int t_remembered, .ref q_output, .int t_outputSize])), (q_input, .inl (C 1, 600, .inl t_input))]) [0, 1] rfl
    have hDc := hD.sub (ws' := [(q, .inr (11, [.int t_thrown, .ref q_net, .ref q_draft, .ref q_row, .int t_allowedMany, .ref q_joyAt, .int t_pointMany, .ref q_pointGain, .ref q_pointJoy, .ref q_pointSet, .ref q_pointTimes, .ref q_pointLight, .ref q_pointAt, .ref q_corner, .int t_cornerMany, .ref q_steps, .int t_stepMany, .int t_queued, .ref q_pairs, .ref q_layerOfPair, .int t_pairMany, .ref q_layerJoy, .int t_layerMany, .int t_climbSteps, .int t_ahead, .ref q_input, .int t_inputSize, .int t_textSize, .int u14_1, .int u14_2, .int u14_3, .int u14_4, .int t_errorFound, .int t_errorPlace, .ref q_slots, .ref q_isKept, .ref q_past, .int t_remembered, .ref q_output, .int t_outputSize])), (q_input, .inl (C 1, 600, .inl t_input))]) [0, 1] (by decide) rfl
    have hFc := va_free (wc := [(q, .inr (11, [.int t_thrown, .ref q_net, .ref q_draft, .ref q_row, .int t_allowedMany, .ref q_joyAt, .int t_pointMany, .ref q_pointGain, .ref q_pointJoy, .ref q_pointSet, .ref q_pointTimes, .ref q_pointLight, .ref q_pointAt, .ref q_corner, .int t_cornerMany, .ref q_steps, .int t_stepMany, .int t_queued, .ref q_pairs, .ref q_layerOfPair, .int t_pairMany, .ref q_layerJoy, .int t_layerMany, .int t_climbSteps, .int t_ahead, .ref q_input, .int t_inputSize, .int t_textSize, .int u14_1, .int u14_2, .int u14_3, .int u14_4, .int t_errorFound, .int t_errorPlace, .ref q_slots, .ref q_isKept, .ref q_past, .int t_remembered, .ref q_output, .int t_outputSize])), (q_input, .inl (C 1, 600, .inl t_input))]) hD hS hA [0, 1] rfl
    refine va_calli (va_runV (As := [.int x2, .int x3]) (rest := []) ⟨hx, hb, hml, hown, hts⟩ (met_X11_number l D C q q_net q_draft q_row q_joyAt q_pointGain q_pointJoy q_pointSet q_pointTimes q_pointLight q_pointAt q_corner q_steps q_pairs q_layerOfPair q_layerJoy q_input q_slots q_isKept q_past q_output x2 x3 t_thrown t_allowedMany t_pointMany t_cornerMany t_stepMany t_queued t_pairMany t_layerMany t_climbSteps t_ahead t_inputSize t_textSize u14_1 u14_2 u14_3 u14_4 t_errorFound t_errorPlace t_remembered t_outputSize t_input H.size _ hwp) (cwV 2 hts gc_X11_303 rfl rfl rfl (by decide +kernel) ⟨Nat.le_of_ble_eq_true rfl, Nat.le_of_ble_eq_true rfl⟩) ⟨fun a U g mk q => by obtain ⟨q0, q1, qP, qK, qD⟩ := q; exact ⟨q0, q1, qP, va_K.moved (u := U) (U := U.calling g mk a) (Vm.Alike.refl U.vm) qK, qD⟩, va_recv hK hPc (ci := 11) (q0 := 0) rfl rfl, fun U hU hW => ⟨rfl, by rw [hU], by rw [hU]; exact hPc, va_K.moved hW.alike hK, hDc.weaken (fun _ _ _ _ => trivial)⟩⟩ rfl rfl hl.1 rfl (lv_room (Nat.le_of_ble_eq_true rfl)) dX11_numberBehind_20 ⟨Nat.zero_le _, Nat.zero_le _⟩) hS (fun q _ h => hFc q h) hFc (fun r20 u t H1 locs ht hvm hwp hB hz1 hk1 hS => ?_)
    obtain ⟨u20_5, u20_6, u20_7, u20_8, u20_9, u20_10⟩ := u
    obtain ⟨hP1, -, hD1⟩ := hB
    rw [ht] at hP1
    obtain ⟨hP, hD⟩ := va_join (wr := []) (w1 := [(q, .inr (11, [.int t_thrown, .ref q_net, .ref q_draft, .ref q_row, .int t_allowedMany, .ref q_joyAt, .int t_pointMany, .ref q_pointGain, .ref q_pointJoy, .ref q_pointSet, .ref q_pointTimes, .ref q_pointLight, .ref q_pointAt, .ref q_corner, .int t_cornerMany, .ref q_steps, .int t_stepMany, .int t_queued, .ref q_pairs, .ref q_layerOfPair, .int t_pairMany, .ref q_layerJoy, .int t_layerMany, .int t_climbSteps, .int t_ahead, .ref q_input, .int t_inputSize, .int t_textSize, .int u20_5, .int u20_6, .int u20_7, .int u20_8, .int u20_9, .int u20_10, .ref q_slots, .ref q_isKept, .ref q_past, .int t_remembered, .ref q_output, .int t_outputSize])), (q_input, .inl (C 1, 600, .inl t_input))]) hP hD [0, 1] [] rfl rfl (by decide) (by decide) hk1 hFc hP1 hD1
    generalize H1 = H at hP hS ⊢
    have hP : va_P D vwCl [(q, .inr (11, [.int t_thrown, .ref q_net, .ref q_draft, .ref q_row, .int t_allowedMany, .ref q_joyAt, .int t_pointMany, .ref q_pointGain, .ref q_pointJoy, .ref q_pointSet, .ref q_pointTimes, .ref q_pointLight, .ref q_pointAt, .ref q_corner, .int t_cornerMany, .ref q_steps, .int t_stepMany, .int t_queued, .ref q_pairs, .ref q_layerOfPair, .int t_pairMany, .ref q_layerJoy, .int t_layerMany, .int t_climbSteps, .int t_ahead, .ref q_input, .int t_inputSize, .int t_textSize, .int u20_5, .int u20_6, .int u20_7, .int u20_8, .int u20_9, .int u20_10, .ref q_slots, .ref q_isKept, .ref q_past, .int t_remembered, .ref q_output, .int t_outputSize])), (q_input, .inl (C 1, 600, .inl t_input))] H := hP
    have hD : va_D A [(q, .inr (11, [.int t_thrown, .ref q_net, .ref q_draft, .ref q_row, .int t_allowedMany, .ref q_joyAt, .int t_pointMany, .ref q_pointGain, .ref q_pointJoy, .ref q_pointSet, .ref q_pointTimes, .ref q_pointLight, .ref q_pointAt, .ref q_corner, .int t_cornerMany, .ref q_steps, .int t_stepMany, .int t_queued, .ref q_pairs, .ref q_layerOfPair, .int t_pairMany, .ref q_layerJoy, .int t_layerMany, .int t_climbSteps, .int t_ahead, .ref q_input, .int t_inputSize, .int t_textSize, .int u20_5, .int u20_6, .int u20_7, .int u20_8, .int u20_9, .int u20_10, .ref q_slots, .ref q_isKept, .ref q_past, .int t_remembered, .ref q_output, .int t_outputSize])), (q_input, .inl (C 1, 600, .inl t_input))] := hD
    have hP9 := hP.sub (ws' := [(q, .inr (11, [.int t_thrown, .ref q_net, .ref q_draft, .ref q_row, .int t_allowedMany, .ref q_joyAt, .int t_pointMany, .ref q_pointGain, .ref q_pointJoy, .ref q_pointSet, .ref q_pointTimes, .ref q_pointLight, .ref q_pointAt, .ref q_corner, .int t_cornerMany, .ref q_steps, .int t_stepMany, .int t_queued, .ref q_pairs, .ref q_layerOfPair, .int t_pairMany, .ref q_layerJoy, .int t_layerMany, .int t_climbSteps, .int t_ahead, .ref q_input, .int t_inputSize, .int t_textSize, .int u20_5, .int u20_6, .int u20_7, .int u20_8, .int u20_9, .int u20_10, .ref q_slots, .ref q_isKept, .ref q_past, .int t_remembered, .ref q_output, .int t_outputSize])), (q_input, .inl (C 1, 600, .inl t_input))]) [0, 1] rfl
    have hD9 := hD.sub (ws' := [(q, .inr (11, [.int t_thrown, .ref q_net, .ref q_draft, .ref q_row, .int t_allowedMany, .ref q_joyAt, .int t_pointMany, .ref q_pointGain, .ref q_pointJoy, .ref q_pointSet, .ref q_pointTimes, .ref q_pointLight, .ref q_pointAt, .ref q_corner, .int t_cornerMany, .ref q_steps, .int t_stepMany, .int t_queued, .ref q_pairs, .ref q_layerOfPair, .int t_pairMany, .ref q_layerJoy, .int t_layerMany, .int t_climbSteps, .int t_ahead, .ref q_input, .int t_inputSize, .int t_textSize, .int u20_5, .int u20_6, .int u20_7, .int u20_8, .int u20_9, .int u20_10, .ref q_slots, .ref q_isKept, .ref q_past, .int t_remembered, .ref q_output, .int t_outputSize])), (q_input, .inl (C 1, 600, .inl t_input))]) [0, 1] (by decide) rfl
    exact W.iret (v := r20) hx hb hr (fun t ht hW => ⟨⟨r20, (u20_5, u20_6, u20_7, u20_8, u20_9, u20_10), rfl, hwp, by rw [ht]; exact hP9, va_K.moved hW.alike hK, hD9⟩, hS.F ht⟩) hS.2.2 dX11_numberBehind_23
  unfold wp_X11_numberBehind at hwp
  obtain ⟨H, hH⟩ : ∃ H, H = s.heap := ⟨_, rfl⟩
  obtain ⟨locs, hlo⟩ : ∃ z : List Loc, z = [] := ⟨_, rfl⟩
  have hP : va_P D vwCl [(q, .inr (11, [.int t_thrown, .ref q_net, .ref q_draft, .ref q_row, .int t_allowedMany, .ref q_joyAt, .int t_pointMany, .ref q_pointGain, .ref q_pointJoy, .ref q_pointSet, .ref q_pointTimes, .ref q_pointLight, .ref q_pointAt, .ref q_corner, .int t_cornerMany, .ref q_steps, .int t_stepMany, .int t_queued, .ref q_pairs, .ref q_layerOfPair, .int t_pairMany, .ref q_layerJoy, .int t_layerMany, .int t_climbSteps, .int t_ahead, .ref q_input, .int t_inputSize, .int t_textSize, .int t_next, .int t_start, .int t_token, .int t_value, .int t_errorFound, .int t_errorPlace, .ref q_slots, .ref q_isKept, .ref q_past, .int t_remembered, .ref q_output, .int t_outputSize])), (q_input, .inl (C 1, 600, .inl t_input))] H := by rw [hH]; exact hP
  have hD : va_D A [(q, .inr (11, [.int t_thrown, .ref q_net, .ref q_draft, .ref q_row, .int t_allowedMany, .ref q_joyAt, .int t_pointMany, .ref q_pointGain, .ref q_pointJoy, .ref q_pointSet, .ref q_pointTimes, .ref q_pointLight, .ref q_pointAt, .ref q_corner, .int t_cornerMany, .ref q_steps, .int t_stepMany, .int t_queued, .ref q_pairs, .ref q_layerOfPair, .int t_pairMany, .ref q_layerJoy, .int t_layerMany, .int t_climbSteps, .int t_ahead, .ref q_input, .int t_inputSize, .int t_textSize, .int t_next, .int t_start, .int t_token, .int t_value, .int t_errorFound, .int t_errorPlace, .ref q_slots, .ref q_isKept, .ref q_past, .int t_remembered, .ref q_output, .int t_outputSize])), (q_input, .inl (C 1, 600, .inl t_input))] := hD
  have hS : va_S A s.heap H locs := by rw [hH, hlo]; exact hS
  suffices K : W p l e (headSpec ws_X11_numberBehind rm_X11_numberBehind).room s m ([.ref q, .ref q1, .int p2, .int p3] : List Value).toArray below meth c H locs 0 0 (MQ below (q_X11_numberBehind D C q q_net q_draft q_row q_joyAt q_pointGain q_pointJoy q_pointSet q_pointTimes q_pointLight q_pointAt q_corner q_steps q_pairs q_layerOfPair q_layerJoy q_input q_slots q_isKept q_past q_output q1 t1_bs t_thrown t_allowedMany t_pointMany t_cornerMany t_stepMany t_queued t_pairMany t_layerMany t_climbSteps t_ahead t_inputSize t_textSize t_remembered t_outputSize t_input Q A) ([.ref q, .ref q1, .int p2, .int p3] : List Value).toArray s 0 0 A) (F0 m 0 ls []) from by rw [hH, hlo] at K; exact K
  refine lv_aload_n hx hb dX11_numberBehind_0 rfl (lv_at hl 0 rfl) ?_
  refine lv_aload_n hx hb dX11_numberBehind_1 rfl (lv_at hl 1 rfl) ?_
  have hPc := hP.sub (ws' := [(q, .inr (11, [.int t_thrown, .ref q_net, .ref q_draft, .ref q_row, .int t_allowedMany, .ref q_joyAt, .int t_pointMany, .ref q_pointGain, .ref q_pointJoy, .ref q_pointSet, .ref q_pointTimes, .ref q_pointLight, .ref q_pointAt, .ref q_corner, .int t_cornerMany, .ref q_steps, .int t_stepMany, .int t_queued, .ref q_pairs, .ref q_layerOfPair, .int t_pairMany, .ref q_layerJoy, .int t_layerMany, .int t_climbSteps, .int t_ahead, .ref q_input, .int t_inputSize, .int t_textSize, .int t_next, .int t_start, .int t_token, .int t_value, .int t_errorFound, .int t_errorPlace, .ref q_slots, .ref q_isKept, .ref q_past, .int t_remembered, .ref q_output, .int t_outputSize])), (q_input, .inl (C 1, 600, .inl t_input))]) [0, 1] rfl
  have hDc := hD.sub (ws' := [(q, .inr (11, [.int t_thrown, .ref q_net, .ref q_draft, .ref q_row, .int t_allowedMany, .ref q_joyAt, .int t_pointMany, .ref q_pointGain, .ref q_pointJoy, .ref q_pointSet, .ref q_pointTimes, .ref q_pointLight, .ref q_pointAt, .ref q_corner, .int t_cornerMany, .ref q_steps, .int t_stepMany, .int t_queued, .ref q_pairs, .ref q_layerOfPair, .int t_pairMany, .ref q_layerJoy, .int t_layerMany, .int t_climbSteps, .int t_ahead, .ref q_input, .int t_inputSize, .int t_textSize, .int t_next, .int t_start, .int t_token, .int t_value, .int t_errorFound, .int t_errorPlace, .ref q_slots, .ref q_isKept, .ref q_past, .int t_remembered, .ref q_output, .int t_outputSize])), (q_input, .inl (C 1, 600, .inl t_input))]) [0, 1] (by decide) rfl
  have hFc := va_free (wc := [(q, .inr (11, [.int t_thrown, .ref q_net, .ref q_draft, .ref q_row, .int t_allowedMany, .ref q_joyAt, .int t_pointMany, .ref q_pointGain, .ref q_pointJoy, .ref q_pointSet, .ref q_pointTimes, .ref q_pointLight, .ref q_pointAt, .ref q_corner, .int t_cornerMany, .ref q_steps, .int t_stepMany, .int t_queued, .ref q_pairs, .ref q_layerOfPair, .int t_pairMany, .ref q_layerJoy, .int t_layerMany, .int t_climbSteps, .int t_ahead, .ref q_input, .int t_inputSize, .int t_textSize, .int t_next, .int t_start, .int t_token, .int t_value, .int t_errorFound, .int t_errorPlace, .ref q_slots, .ref q_isKept, .ref q_past, .int t_remembered, .ref q_output, .int t_outputSize])), (q_input, .inl (C 1, 600, .inl t_input))]) hD hS hA [0, 1] rfl
  refine va_calli (va_runV (As := [.ref q1]) (rest := []) ⟨hx, hb, hml, hown, hts⟩ (met_X11_isWord l hst D C q q_net q_draft q_row q_joyAt q_pointGain q_pointJoy q_pointSet q_pointTimes q_pointLight q_pointAt q_corner q_steps q_pairs q_layerOfPair q_layerJoy q_input q_slots q_isKept q_past q_output q1 t1_bs t_thrown t_allowedMany t_pointMany t_cornerMany t_stepMany t_queued t_pairMany t_layerMany t_climbSteps t_ahead t_inputSize t_textSize t_next t_start t_token t_value t_errorFound t_errorPlace t_remembered t_outputSize t_input H.size _ hwp) (cwV 1 hts gc_X11_299 rfl rfl rfl (by decide +kernel) ⟨Nat.le_of_ble_eq_true rfl, Nat.le_of_ble_eq_true rfl⟩) ⟨fun a U g mk q => by obtain ⟨q0, q1, qP, qK, qD, qT, qS_q1⟩ := q; exact ⟨q0, q1, qP, va_K.moved (u := U) (U := U.calling g mk a) (Vm.Alike.refl U.vm) qK, qD, qT.mv (U := U.calling g mk a) (State.WarmedH.refl U), qS_q1.moved (U := U.calling g mk a) (Vm.Alike.refl U.vm)⟩, va_recv hK hPc (ci := 11) (q0 := 0) rfl rfl, fun U hU hW => ⟨rfl, by rw [hU], by rw [hU]; exact hPc, va_K.moved hW.alike hK, hDc.weaken (fun _ _ _ _ => trivial), hT.call hS hFc hU hW, hs_q1.call hS hFc hU hW⟩⟩ rfl rfl hl.1 rfl (lv_room (Nat.le_of_ble_eq_true rfl)) dX11_numberBehind_2 ⟨Nat.zero_le _, Nat.zero_le _⟩) hS (fun q _ h => hFc q h) hFc (fun r2 u t H1 locs ht hvm hwp hB hz1 hk1 hS => ?_)
  obtain ⟨hP1, -, hD1⟩ := hB
  rw [ht] at hP1
  obtain ⟨hP, hD⟩ := va_join (wr := []) (w1 := [(q, .inr (11, [.int t_thrown, .ref q_net, .ref q_draft, .ref q_row, .int t_allowedMany, .ref q_joyAt, .int t_pointMany, .ref q_pointGain, .ref q_pointJoy, .ref q_pointSet, .ref q_pointTimes, .ref q_pointLight, .ref q_pointAt, .ref q_corner, .int t_cornerMany, .ref q_steps, .int t_stepMany, .int t_queued, .ref q_pairs, .ref q_layerOfPair, .int t_pairMany, .ref q_layerJoy, .int t_layerMany, .int t_climbSteps, .int t_ahead, .ref q_input, .int t_inputSize, .int t_textSize, .int t_next, .int t_start, .int t_token, .int t_value, .int t_errorFound, .int t_errorPlace, .ref q_slots, .ref q_isKept, .ref q_past, .int t_remembered, .ref q_output, .int t_outputSize])), (q_input, .inl (C 1, 600, .inl t_input))]) hP hD [0, 1] [] rfl rfl (by decide) (by decide) hk1 hFc hP1 hD1
  generalize H1 = H at hP hS ⊢
  have hP : va_P D vwCl [(q, .inr (11, [.int t_thrown, .ref q_net, .ref q_draft, .ref q_row, .int t_allowedMany, .ref q_joyAt, .int t_pointMany, .ref q_pointGain, .ref q_pointJoy, .ref q_pointSet, .ref q_pointTimes, .ref q_pointLight, .ref q_pointAt, .ref q_corner, .int t_cornerMany, .ref q_steps, .int t_stepMany, .int t_queued, .ref q_pairs, .ref q_layerOfPair, .int t_pairMany, .ref q_layerJoy, .int t_layerMany, .int t_climbSteps, .int t_ahead, .ref q_input, .int t_inputSize, .int t_textSize, .int t_next, .int t_start, .int t_token, .int t_value, .int t_errorFound, .int t_errorPlace, .ref q_slots, .ref q_isKept, .ref q_past, .int t_remembered, .ref q_output, .int t_outputSize])), (q_input, .inl (C 1, 600, .inl t_input))] H := hP
  have hD : va_D A [(q, .inr (11, [.int t_thrown, .ref q_net, .ref q_draft, .ref q_row, .int t_allowedMany, .ref q_joyAt, .int t_pointMany, .ref q_pointGain, .ref q_pointJoy, .ref q_pointSet, .ref q_pointTimes, .ref q_pointLight, .ref q_pointAt, .ref q_corner, .int t_cornerMany, .ref q_steps, .int t_stepMany, .int t_queued, .ref q_pairs, .ref q_layerOfPair, .int t_pairMany, .ref q_layerJoy, .int t_layerMany, .int t_climbSteps, .int t_ahead, .ref q_input, .int t_inputSize, .int t_textSize, .int t_next, .int t_start, .int t_token, .int t_value, .int t_errorFound, .int t_errorPlace, .ref q_slots, .ref q_isKept, .ref q_past, .int t_remembered, .ref q_output, .int t_outputSize])), (q_input, .inl (C 1, 600, .inl t_input))] := hD
  refine lv_if_ne (tgt := 13) hx hb dX11_numberBehind_5 (by decide) (fun c5 => ?_) (fun c5 => ?_)
  · have hwp := hwp.1 c5
    have hl9 := lv_sub (l' := [(0, .ref q), (2, .int p2), (3, .int p3)]) hl [0, 2, 3] rfl
    have hP9 := hP.sub (ws' := [(q, .inr (11, [.int t_thrown, .ref q_net, .ref q_draft, .ref q_row, .int t_allowedMany, .ref q_joyAt, .int t_pointMany, .ref q_pointGain, .ref q_pointJoy, .ref q_pointSet, .ref q_pointTimes, .ref q_pointLight, .ref q_pointAt, .ref q_corner, .int t_cornerMany, .ref q_steps, .int t_stepMany, .int t_queued, .ref q_pairs, .ref q_layerOfPair, .int t_pairMany, .ref q_layerJoy, .int t_layerMany, .int t_climbSteps, .int t_ahead, .ref q_input, .int t_inputSize, .int t_textSize, .int t_next, .int t_start, .int t_token, .int t_value, .int t_errorFound, .int t_errorPlace, .ref q_slots, .ref q_isKept, .ref q_past, .int t_remembered, .ref q_output, .int t_outputSize])), (q_input, .inl (C 1, 600, .inl t_input))]) [0, 1] rfl
    have hD9 := hD.sub (ws' := [(q, .inr (11, [.int t_thrown, .ref q_net, .ref q_draft, .ref q_row, .int t_allowedMany, .ref q_joyAt, .int t_pointMany, .ref q_pointGain, .ref q_pointJoy, .ref q_pointSet, .ref q_pointTimes, .ref q_pointLight, .ref q_pointAt, .ref q_corner, .int t_cornerMany, .ref q_steps, .int t_stepMany, .int t_queued, .ref q_pairs, .ref q_layerOfPair, .int t_pairMany, .ref q_layerJoy, .int t_layerMany, .int t_climbSteps, .int t_ahead, .ref q_input, .int t_inputSize, .int t_textSize, .int t_next, .int t_start, .int t_token, .int t_value, .int t_errorFound, .int t_errorPlace, .ref q_slots, .ref q_isKept, .ref q_past, .int t_remembered, .ref q_output, .int t_outputSize])), (q_input, .inl (C 1, 600, .inl t_input))]) [0, 1] (by decide) rfl
    exact HB13 p2 p3 t_next t_start t_token t_value t_errorFound t_errorPlace H locs ls hl9 hP9 hD9 hS hwp
  · have hwp := hwp.2 c5
    refine lv_aload_n hx hb dX11_numberBehind_8 rfl (lv_at hl 0 rfl) ?_
    refine lv_iconst (v := 1) hx hb dX11_numberBehind_9 (by decide) ?_
    have hPc := hP.sub (ws' := [(q, .inr (11, [.int t_thrown, .ref q_net, .ref q_draft, .ref q_row, .int t_allowedMany, .ref q_joyAt, .int t_pointMany, .ref q_pointGain, .ref q_pointJoy, .ref q_pointSet, .ref q_pointTimes, .ref q_pointLight, .ref q_pointAt, .ref q_corner, .int t_cornerMany, .ref q_steps, .int t_stepMany, .int t_queued, .ref q_pairs, .ref q_layerOfPair, .int t_pairMany, .ref q_layerJoy, .int t_layerMany, .int t_climbSteps, .int t_ahead, .ref q_input, .int t_inputSize, .int t_textSize, .int t_next, .int t_start, .int t_token, .int t_value, .int t_errorFound, .int t_errorPlace, .ref q_slots, .ref q_isKept, .ref q_past, .int t_remembered, .ref q_output, .int t_outputSize]))]) [0] rfl
    have hDc := hD.sub (ws' := [(q, .inr (11, [.int t_thrown, .ref q_net, .ref q_draft, .ref q_row, .int t_allowedMany, .ref q_joyAt, .int t_pointMany, .ref q_pointGain, .ref q_pointJoy, .ref q_pointSet, .ref q_pointTimes, .ref q_pointLight, .ref q_pointAt, .ref q_corner, .int t_cornerMany, .ref q_steps, .int t_stepMany, .int t_queued, .ref q_pairs, .ref q_layerOfPair, .int t_pairMany, .ref q_layerJoy, .int t_layerMany, .int t_climbSteps, .int t_ahead, .ref q_input, .int t_inputSize, .int t_textSize, .int t_next, .int t_start, .int t_token, .int t_value, .int t_errorFound, .int t_errorPlace, .ref q_slots, .ref q_isKept, .ref q_past, .int t_remembered, .ref q_output, .int t_outputSize]))]) [0] (by decide) rfl
    have hFc := va_free (wc := [(q, .inr (11, [.int t_thrown, .ref q_net, .ref q_draft, .ref q_row, .int t_allowedMany, .ref q_joyAt, .int t_pointMany, .ref q_pointGain, .ref q_pointJoy, .ref q_pointSet, .ref q_pointTimes, .ref q_pointLight, .ref q_pointAt, .ref q_corner, .int t_cornerMany, .ref q_steps, .int t_stepMany, .int t_queued, .ref q_pairs, .ref q_layerOfPair, .int t_pairMany, .ref q_layerJoy, .int t_layerMany, .int t_climbSteps, .int t_ahead, .ref q_input, .int t_inputSize, .int t_textSize, .int t_next, .int t_start, .int t_token, .int t_value, .int t_errorFound, .int t_errorPlace, .ref q_slots, .ref q_isKept, .ref q_past, .int t_remembered, .ref q_output, .int t_outputSize]))]) hD hS hA [0] rfl
    refine va_callv (va_runV (As := [.int (1 : Int32)]) (rest := []) ⟨hx, hb, hml, hown, hts⟩ (met_X11_errs l D C q q_net q_draft q_row q_joyAt q_pointGain q_pointJoy q_pointSet q_pointTimes q_pointLight q_pointAt q_corner q_steps q_pairs q_layerOfPair q_layerJoy q_input q_slots q_isKept q_past q_output (1 : Int32) t_thrown t_allowedMany t_pointMany t_cornerMany t_stepMany t_queued t_pairMany t_layerMany t_climbSteps t_ahead t_inputSize t_textSize t_next t_start t_token t_value t_errorFound t_errorPlace t_remembered t_outputSize H.size _ hwp) (cwV 1 hts gc_X11_290 rfl rfl rfl (by decide +kernel) ⟨Nat.le_of_ble_eq_true rfl, Nat.le_of_ble_eq_true rfl⟩) ⟨fun a U g mk q => by obtain ⟨q0, q1, qP, qK, qD⟩ := q; exact ⟨q0, q1, qP, va_K.moved (u := U) (U := U.calling g mk a) (Vm.Alike.refl U.vm) qK, qD⟩, va_recv hK hPc (ci := 11) (q0 := 0) rfl rfl, fun U hU hW => ⟨rfl, by rw [hU], by rw [hU]; exact hPc, va_K.moved hW.alike hK, hDc.weaken (fun _ _ _ _ => trivial)⟩⟩ rfl rfl hl.1 rfl (lv_room (Nat.le_of_ble_eq_true rfl)) dX11_numberBehind_10 ⟨Nat.zero_le _, Nat.zero_le _⟩) hS (fun q _ h => hFc q h) hFc (fun u t H1 locs ht hvm hwp hB hz1 hk1 hS => ?_)
    obtain ⟨u10_11, u10_12⟩ := u
    obtain ⟨hP1, -, hD1⟩ := hB
    rw [ht] at hP1
    obtain ⟨hP, hD⟩ := va_join (wr := [(q_input, .inl (C 1, 600, .inl t_input))]) (w1 := [(q, .inr (11, [.int t_thrown, .ref q_net, .ref q_draft, .ref q_row, .int t_allowedMany, .ref q_joyAt, .int t_pointMany, .ref q_pointGain, .ref q_pointJoy, .ref q_pointSet, .ref q_pointTimes, .ref q_pointLight, .ref q_pointAt, .ref q_corner, .int t_cornerMany, .ref q_steps, .int t_stepMany, .int t_queued, .ref q_pairs, .ref q_layerOfPair, .int t_pairMany, .ref q_layerJoy, .int t_layerMany, .int t_climbSteps, .int t_ahead, .ref q_input, .int t_inputSize, .int t_textSize, .int t_next, .int t_start, .int t_token, .int t_value, .int u10_11, .int u10_12, .ref q_slots, .ref q_isKept, .ref q_past, .int t_remembered, .ref q_output, .int t_outputSize]))]) hP hD [0] [1] rfl rfl (by decide) (by decide) hk1 hFc hP1 hD1
    generalize H1 = H at hP hS ⊢
    have hP : va_P D vwCl [(q_input, .inl (C 1, 600, .inl t_input)), (q, .inr (11, [.int t_thrown, .ref q_net, .ref q_draft, .ref q_row, .int t_allowedMany, .ref q_joyAt, .int t_pointMany, .ref q_pointGain, .ref q_pointJoy, .ref q_pointSet, .ref q_pointTimes, .ref q_pointLight, .ref q_pointAt, .ref q_corner, .int t_cornerMany, .ref q_steps, .int t_stepMany, .int t_queued, .ref q_pairs, .ref q_layerOfPair, .int t_pairMany, .ref q_layerJoy, .int t_layerMany, .int t_climbSteps, .int t_ahead, .ref q_input, .int t_inputSize, .int t_textSize, .int t_next, .int t_start, .int t_token, .int t_value, .int u10_11, .int u10_12, .ref q_slots, .ref q_isKept, .ref q_past, .int t_remembered, .ref q_output, .int t_outputSize]))] H := hP
    have hD : va_D A [(q_input, .inl (C 1, 600, .inl t_input)), (q, .inr (11, [.int t_thrown, .ref q_net, .ref q_draft, .ref q_row, .int t_allowedMany, .ref q_joyAt, .int t_pointMany, .ref q_pointGain, .ref q_pointJoy, .ref q_pointSet, .ref q_pointTimes, .ref q_pointLight, .ref q_pointAt, .ref q_corner, .int t_cornerMany, .ref q_steps, .int t_stepMany, .int t_queued, .ref q_pairs, .ref q_layerOfPair, .int t_pairMany, .ref q_layerJoy, .int t_layerMany, .int t_climbSteps, .int t_ahead, .ref q_input, .int t_inputSize, .int t_textSize, .int t_next, .int t_start, .int t_token, .int t_value, .int u10_11, .int u10_12, .ref q_slots, .ref q_isKept, .ref q_past, .int t_remembered, .ref q_output, .int t_outputSize]))] := hD
    have hl9 := lv_sub (l' := [(0, .ref q), (2, .int p2), (3, .int p3)]) hl [0, 2, 3] rfl
    have hP9 := hP.sub (ws' := [(q, .inr (11, [.int t_thrown, .ref q_net, .ref q_draft, .ref q_row, .int t_allowedMany, .ref q_joyAt, .int t_pointMany, .ref q_pointGain, .ref q_pointJoy, .ref q_pointSet, .ref q_pointTimes, .ref q_pointLight, .ref q_pointAt, .ref q_corner, .int t_cornerMany, .ref q_steps, .int t_stepMany, .int t_queued, .ref q_pairs, .ref q_layerOfPair, .int t_pairMany, .ref q_layerJoy, .int t_layerMany, .int t_climbSteps, .int t_ahead, .ref q_input, .int t_inputSize, .int t_textSize, .int t_next, .int t_start, .int t_token, .int t_value, .int u10_11, .int u10_12, .ref q_slots, .ref q_isKept, .ref q_past, .int t_remembered, .ref q_output, .int t_outputSize])), (q_input, .inl (C 1, 600, .inl t_input))]) [1, 0] rfl
    have hD9 := hD.sub (ws' := [(q, .inr (11, [.int t_thrown, .ref q_net, .ref q_draft, .ref q_row, .int t_allowedMany, .ref q_joyAt, .int t_pointMany, .ref q_pointGain, .ref q_pointJoy, .ref q_pointSet, .ref q_pointTimes, .ref q_pointLight, .ref q_pointAt, .ref q_corner, .int t_cornerMany, .ref q_steps, .int t_stepMany, .int t_queued, .ref q_pairs, .ref q_layerOfPair, .int t_pairMany, .ref q_layerJoy, .int t_layerMany, .int t_climbSteps, .int t_ahead, .ref q_input, .int t_inputSize, .int t_textSize, .int t_next, .int t_start, .int t_token, .int t_value, .int u10_11, .int u10_12, .ref q_slots, .ref q_isKept, .ref q_past, .int t_remembered, .ref q_output, .int t_outputSize])), (q_input, .inl (C 1, 600, .inl t_input))]) [1, 0] (by decide) rfl
    exact HB13 p2 p3 t_next t_start t_token t_value u10_11 u10_12 H locs ls hl9 hP9 hD9 hS hwp
