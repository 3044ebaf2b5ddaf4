abbrev rm_X2_valueOf : Room := { frames := 0, cells := 0, slots := 0, locals := 0 }
def wp_X2_valueOf (p1 : Int32) (p2 : Int32) (p3 : Int32) (t_gain : Nat → Int32) (t_joy : Nat → Int32) (Q : Int32 → Prop) : Prop := vp_in p1 1189 ∧ (vp_in p1 1189 ∧ (Q ((p2 * (t_gain p1.toNatClampNeg)) + (p3 * (t_joy p1.toNatClampNeg)))))
abbrev q_X2_valueOf (D : va_G) (C : Nat → ClassId) (q : Nat) (q_gain : Nat) (q_joy : Nat) (q_choice : Nat) (q_times : Nat) (q_light : Nat) (q_mark : Nat) (q_vertexPoint : Nat) (q_pointAt : Nat) (q_reached : Nat) (t_size : Int32) (t_vertexCount : Int32) (t_allowedCount : Int32) (t_areaBelow : Int32) (t_gain : Nat → Int32) (t_joy : Nat → Int32) (Q : Int32 → Prop) (A : Nat → Prop) : Array Value → State → Outcome → State → Prop := va_Qi (fun (r : Int32) (u : Unit) => Q r) (fun (u : Unit) (t : State) => va_P D vwCl [(q, .inr (2, [.ref q_gain, .ref q_joy, .ref q_choice, .ref q_times, .ref q_light, .ref q_mark, .ref q_vertexPoint, .ref q_pointAt, .ref q_reached, .int t_size, .int t_vertexCount, .int t_allowedCount, .int t_areaBelow])), (q_gain, .inl (C 0, 1189, .inl t_gain)), (q_joy, .inl (C 0, 1189, .inl t_joy))] t.heap ∧ va_K D vwCl (tyL C) t ∧ va_D A [(q, .inr (2, [.ref q_gain, .ref q_joy, .ref q_choice, .ref q_times, .ref q_light, .ref q_mark, .ref q_vertexPoint, .ref q_pointAt, .ref q_reached, .int t_size, .int t_vertexCount, .int t_allowedCount, .int t_areaBelow])), (q_gain, .inl (C 0, 1189, .inl t_gain)), (q_joy, .inl (C 0, 1189, .inl t_joy))]) A
theorem iwX2_valueOf_X2 : ∀ w ∈ u_ws RX2 TX2 13, w ∈ wsX2_valueOf := mem_places [3, 4, 5, 6, 7, 8, 9, 10, 11, 12, 13, 14, 15] (by rfl)
set_option maxHeartbeats 4000000 in
set_option maxRecDepth 100000 in
theorem met_X2_valueOf (l : Launch) (D : va_G) (C : Nat → ClassId) (q : Nat) (q_gain : Nat) (q_joy : Nat) (q_choice : Nat) (q_times : Nat) (q_light : Nat) (q_mark : Nat) (q_vertexPoint : Nat) (q_pointAt : Nat) (q_reached : Nat) (p1 : Int32) (p2 : Int32) (p3 : Int32) (t_size : Int32) (t_vertexCount : Int32) (t_allowedCount : Int32) (t_areaBelow : Int32) (t_gain : Nat → Int32) (t_joy : Nat → Int32) (sz : Nat) (Q : Int32 → Prop) (hwp : wp_X2_valueOf p1 p2 p3 t_gain t_joy Q) : Met l yX2_valueOf wsX2_valueOf rm_X2_valueOf (va_Pc [.ref q, .int p1, .int p2, .int p3] (fun U => U.heap.size = sz ∧ va_P D vwCl [(q, .inr (2, [.ref q_gain, .ref q_joy, .ref q_choice, .ref q_times, .ref q_light, .ref q_mark, .ref q_vertexPoint, .ref q_pointAt, .ref q_reached, .int t_size, .int t_vertexCount, .int t_allowedCount, .int t_areaBelow])), (q_gain, .inl (C 0, 1189, .inl t_gain)), (q_joy, .inl (C 0, 1189, .inl t_joy))] U.heap ∧ va_K D vwCl (tyL C) U ∧ va_D (fun _ => True) [(q, .inr (2, [.ref q_gain, .ref q_joy, .ref q_choice, .ref q_times, .ref q_light, .ref q_mark, .ref q_vertexPoint, .ref q_pointAt, .ref q_reached, .int t_size, .int t_vertexCount, .int t_allowedCount, .int t_areaBelow])), (q_gain, .inl (C 0, 1189, .inl t_gain)), (q_joy, .inl (C 0, 1189, .inl t_joy))])) (q_X2_valueOf D C q q_gain q_joy q_choice q_times q_light q_mark q_vertexPoint q_pointAt q_reached t_size t_vertexCount t_allowedCount t_areaBelow t_gain t_joy Q (va_A [(q, .inr (2, [.ref q_gain, .ref q_joy, .ref q_choice, .ref q_times, .ref q_light, .ref q_mark, .ref q_vertexPoint, .ref q_pointAt, .ref q_reached, .int t_size, .int t_vertexCount, .int t_allowedCount, .int t_areaBelow])), (q_gain, .inl (C 0, 1189, .inl t_gain)), (q_joy, .inl (C 0, 1189, .inl t_joy))] sz)) 0 0 (va_A [(q, .inr (2, [.ref q_gain, .ref q_joy, .ref q_choice, .ref q_times, .ref q_light, .ref q_mark, .ref q_vertexPoint, .ref q_pointAt, .ref q_reached, .int t_size, .int t_vertexCount, .int t_allowedCount, .int t_areaBelow])), (q_gain, .inl (C 0, 1189, .inl t_gain)), (q_joy, .inl (C 0, 1189, .inl t_joy))] sz) := by
  refine Met.ofW (cc := cX2_valueOf) (maxL := 4) (ret := (some .int)) (by decide) rfl ?_
  intro p e s m args below meth c s₁ B hml hv
  obtain ⟨rfl, hsz, hP, hK, hD0⟩ := hv
  have hx := B.exec
  have hb := B.bytes
  have hr := B.returns
  have hts := atoms_spec (ws := wsX2_valueOf) B.pre
  have hown : s.vm.findClass RX2 = some m.cls := findClass_of_methodNamed B.named
  have hlocks := B.notSynchronized
  subst hsz
  have hD := hD0.self (sz := s.heap.size)
  generalize hAe : va_A [(q, .inr (2, [.ref q_gain, .ref q_joy, .ref q_choice, .ref q_times, .ref q_light, .ref q_mark, .ref q_vertexPoint, .ref q_pointAt, .ref q_reached, .int t_size, .int t_vertexCount, .int t_allowedCount, .int t_areaBelow])), (q_gain, .inl (C 0, 1189, .inl t_gain)), (q_joy, .inl (C 0, 1189, .inl t_joy))] s.heap.size = A at hD ⊢
  have hA : ∀ q : Nat, s.heap.size ≤ q → A q := fun q h => by rw [← hAe]; exact Or.inr h
  have hS : va_S A s.heap s.heap [] := va_S.rf
  have hl := lv_entry ([.ref q, .int p1, .int p2, .int p3]) (n := 4) (Nat.le_of_ble_eq_true rfl)
  rw [lg_entry_eq]
  generalize (lg_sl ([.ref q, .int p1, .int p2, .int p3]) ++ List.replicate (4 - (lg_sl ([.ref q, .int p1, .int p2, .int p3])).length) Slot.unset).toArray = ls at hl ⊢
  have hl : lv_has ls 4 [(0, .ref q), (1, .int p1), (2, .int p2), (3, .int p3)] := hl
  unfold wp_X2_valueOf at hwp
  have hP : va_P D vwCl [(q, .inr (2, [.ref q_gain, .ref q_joy, .ref q_choice, .ref q_times, .ref q_light, .ref q_mark, .ref q_vertexPoint, .ref q_pointAt, .ref q_reached, .int t_size, .int t_vertexCount, .int t_allowedCount, .int t_areaBelow])), (q_gain, .inl (C 0, 1189, .inl t_gain)), (q_joy, .inl (C 0, 1189, .inl t_joy))] s.heap := hP
  obtain ⟨H, hH⟩ : ∃ H, H = s.heap := ⟨_, rfl⟩
  obtain ⟨locs, hlo⟩ : ∃ z : List Loc, z = [] := ⟨_, rfl⟩
  have hP : va_P D vwCl [(q, .inr (2, [.ref q_gain, .ref q_joy, .ref q_choice, .ref q_times, .ref q_light, .ref q_mark, .ref q_vertexPoint, .ref q_pointAt, .ref q_reached, .int t_size, .int t_vertexCount, .int t_allowedCount, .int t_areaBelow])), (q_gain, .inl (C 0, 1189, .inl t_gain)), (q_joy, .inl (C 0, 1189, .inl t_joy))] H := by rw [hH]; exact hP
  have hS : va_S A s.heap H locs := by rw [hH, hlo]; exact hS
  suffices K : W p l e (headSpec wsX2_valueOf rm_X2_valueOf).room s m ([.ref q, .int p1, .int p2, .int p3] : List Value).toArray below meth c H locs 0 0 (MQ below (q_X2_valueOf D C q q_gain q_joy q_choice q_times q_light q_mark q_vertexPoint q_pointAt q_reached t_size t_vertexCount t_allowedCount t_areaBelow t_gain t_joy Q A) ([.ref q, .int p1, .int p2, .int p3] : List Value).toArray s 0 0 A) (F0 m 0 ls []) from by rw [hH, hlo] at K; exact K
  refine lv_iload_n hx hb dX2_valueOf_0 rfl (lv_at hl 2 rfl) ?_
  refine lv_aload_n hx hb dX2_valueOf_1 rfl (lv_at hl 0 rfl) ?_
  refine va_get (D := D) (ci := 2) (v := .ref q_gain) (C := RX2) (T := TX2) (N := 13) hx hb hts iwX2_valueOf_X2 hown hK hP 0 rfl rfl 0 (by decide) (hts (.fieldLink RX2 9 "ParetoDesk$Frontier" "gain" "[I") (List.mem_of_getElem? (i := 1) rfl)) (fun _ h9 => h9) rfl dX2_valueOf_2 ?_
  refine lv_iload_n hx hb dX2_valueOf_5 rfl (lv_at hl 1 rfl) ?_
  obtain ⟨hi6, hwp⟩ := hwp
  refine va_iald (D := D) hx hb hK hP 1 0 rfl rfl hi6 dX2_valueOf_6 ?_
  refine lv_imul hx hb dX2_valueOf_7 ?_
  refine lv_iload_n hx hb dX2_valueOf_8 rfl (lv_at hl 3 rfl) ?_
  refine lv_aload_n hx hb dX2_valueOf_9 rfl (lv_at hl 0 rfl) ?_
  refine va_get (D := D) (ci := 2) (v := .ref q_joy) (C := RX2) (T := TX2) (N := 13) hx hb hts iwX2_valueOf_X2 hown hK hP 0 rfl rfl 1 (by decide) (hts (.fieldLink RX2 15 "ParetoDesk$Frontier" "joy" "[I") (List.mem_of_getElem? (i := 2) rfl)) (fun _ h9 => h9) rfl dX2_valueOf_10 ?_
  refine lv_iload_n hx hb dX2_valueOf_13 rfl (lv_at hl 1 rfl) ?_
  obtain ⟨hi14, hwp⟩ := hwp
  refine va_iald (D := D) hx hb hK hP 2 0 rfl rfl hi14 dX2_valueOf_14 ?_
  refine lv_imul hx hb dX2_valueOf_15 ?_
  refine lv_iadd hx hb dX2_valueOf_16 ?_
  have hP9 := hP.sub (ws' := [(q, .inr (2, [.ref q_gain, .ref q_joy, .ref q_choice, .ref q_times, .ref q_light, .ref q_mark, .ref q_vertexPoint, .ref q_pointAt, .ref q_reached, .int t_size, .int t_vertexCount, .int t_allowedCount, .int t_areaBelow])), (q_gain, .inl (C 0, 1189, .inl t_gain)), (q_joy, .inl (C 0, 1189, .inl t_joy))]) [0, 1, 2] rfl
  have hD9 := hD.sub (ws' := [(q, .inr (2, [.ref q_gain, .ref q_joy, .ref q_choice, .ref q_times, .ref q_light, .ref q_mark, .ref q_vertexPoint, .ref q_pointAt, .ref q_reached, .int t_size, .int t_vertexCount, .int t_allowedCount, .int t_areaBelow])), (q_gain, .inl (C 0, 1189, .inl t_gain)), (q_joy, .inl (C 0, 1189, .inl t_joy))]) [0, 1, 2] (by decide) rfl
  exact W.iret (v := (p2 * (t_gain p1.toNatClampNeg)) + (p3 * (t_joy p1.toNatClampNeg))) hx hb hr (fun t ht hW => ⟨⟨(p2 * (t_gain p1.toNatClampNeg)) + (p3 * (t_joy p1.toNatClampNeg)), (), rfl, hwp, by rw [ht]; exact hP9, va_K.moved hW.alike hK, hD9⟩, hS.F ht⟩) hS.2.2 dX2_valueOf_17

abbrev rm_X2_greatestBy : Room := { frames := 1, cells := 0, slots := 0, locals := 23 }
def wp_X2_greatestBy_L8 (t_size : Int32) (t_gain : Nat → Int32) (t_joy : Nat → Int32) (x1 : Int32) (x2 : Int32) (Q : Int32 → Prop) : Nat → Int32 → Int32 → Int32 → Prop
  | 0, _, _, _ => False
  | n + 1, x3, x4, x5 => (t_size ≤ x5 → (Q x3)) ∧ (¬ t_size ≤ x5 → (wp_X2_valueOf x5 x1 x2 t_gain t_joy (fun (r22 : Int32) => (r22 ≤ x4 → (wp_X2_greatestBy_L8 t_size t_gain t_joy x1 x2 Q n x3 x4 (x5 + 1))) ∧ (¬ r22 ≤ x4 → (wp_X2_greatestBy_L8 t_size t_gain t_joy x1 x2 Q n x5 r22 (x5 + 1))))))
def wp_X2_greatestBy (p1 : Int32) (p2 : Int32) (t_size : Int32) (t_gain : Nat → Int32) (t_joy : Nat → Int32) (Q : Int32 → Prop) : Prop := ∃ n, wp_X2_greatestBy_L8 t_size t_gain t_joy p1 p2 Q n (-1) (-1) 0
abbrev q_X2_greatestBy (D : va_G) (C : Nat → ClassId) (q : Nat) (q_gain : Nat) (q_joy : Nat) (q_choice : Nat) (q_times : Nat) (q_light : Nat) (q_mark : Nat) (q_vertexPoint : Nat) (q_pointAt : Nat) (q_reached : Nat) (t_size : Int32) (t_vertexCount : Int32) (t_allowedCount : Int32) (t_areaBelow : Int32) (t_gain : Nat → Int32) (t_joy : Nat → Int32) (Q : Int32 → Prop) (A : Nat → Prop) : Array Value → State → Outcome → State → Prop := va_Qi (fun (r : Int32) (u : Unit) => Q r) (fun (u : Unit) (t : State) => va_P D vwCl [(q, .inr (2, [.ref q_gain, .ref q_joy, .ref q_choice, .ref q_times, .ref q_light, .ref q_mark, .ref q_vertexPoint, .ref q_pointAt, .ref q_reached, .int t_size, .int t_vertexCount, .int t_allowedCount, .int t_areaBelow])), (q_gain, .inl (C 0, 1189, .inl t_gain)), (q_joy, .inl (C 0, 1189, .inl t_joy))] t.heap ∧ va_K D vwCl (tyL C) t ∧ va_D A [(q, .inr (2, [.ref q_gain, .ref q_joy, .ref q_choice, .ref q_times, .ref q_light, .ref q_mark, .ref q_vertexPoint, .ref q_pointAt, .ref q_reached, .int t_size, .int t_vertexCount, .int t_allowedCount, .int t_areaBelow])), (q_gain, .inl (C 0, 1189, .inl t_gain)), (q_joy, .inl (C 0, 1189, .inl t_joy))]) A
theorem iwX2_greatestBy_X2 : ∀ w ∈ u_ws RX2 TX2 13, w ∈ wsX2_greatestBy := mem_places [9, 10, 11, 12, 13, 14, 15, 16, 17, 18, 19, 20, 21] (by rfl)
set_option maxHeartbeats 4000000 in
set_option maxRecDepth 100000 in
theorem met_X2_greatestBy (l : Launch) (D : va_G) (C : Nat → ClassId) (q : Nat) (q_gain : Nat) (q_joy : Nat) (q_choice : Nat) (q_times : Nat) (q_light : Nat) (q_mark : Nat) (q_vertexPoint : Nat) (q_pointAt : Nat) (q_reached : Nat) (p1 : Int32) (p2 : Int32) (t_size : Int32) (t_vertexCount : Int32) (t_allowedCount : Int32) (t_areaBelow : Int32) (t_gain : Nat → Int32) (t_joy : Nat → Int32) (sz : Nat) (Q : Int32 → Prop) (hwp : wp_X2_greatestBy p1 p2 t_size t_gain t_joy Q) : Met l yX2_greatestBy wsX2_greatestBy rm_X2_greatestBy (va_Pc [.ref q, .int p1, .int p2] (fun U => U.heap.size = sz ∧ va_P D vwCl [(q, .inr (2, [.ref q_gain, .ref q_joy, .ref q_choice, .ref q_times, .ref q_light, .ref q_mark, .ref q_vertexPoint, .ref q_pointAt, .ref q_reached, .int t_size, .int t_vertexCount, .int t_allowedCount, .int t_areaBelow])), (q_gain, .inl (C 0, 1189, .inl t_gain)), (q_joy, .inl (C 0, 1189, .inl t_joy))] U.heap ∧ va_K D vwCl (tyL C) U ∧ va_D (fun _ => True) [(q, .inr (2, [.ref q_gain, .ref q_joy, .ref q_choice, .ref q_times, .ref q_light, .ref q_mark, .ref q_vertexPoint, .ref q_pointAt, .ref q_reached, .int t_size, .int t_vertexCount, .int t_allowedCount, .int t_areaBelow])), (q_gain, .inl (C 0, 1189, .inl t_gain)), (q_joy, .inl (C 0, 1189, .inl t_joy))])) (q_X2_greatestBy D C q q_gain q_joy q_choice q_times q_light q_mark q_vertexPoint q_pointAt q_reached t_size t_vertexCount t_allowedCount t_areaBelow t_gain t_joy Q (va_A [(q, .inr (2, [.ref q_gain, .ref q_joy, .ref q_choice, .ref q_times, .ref q_light, .ref q_mark, .ref q_vertexPoint, .ref q_pointAt, .ref q_reached, .int t_size, .int t_vertexCount, .int t_allowedCount, .int t_areaBelow])), (q_gain, .inl (C 0, 1189, .inl t_gain)), (q_joy, .inl (C 0, 1189, .inl t_joy))] sz)) 0 0 (va_A [(q, .inr (2, [.ref q_gain, .ref q_joy, .ref q_choice, .ref q_times, .ref q_light, .ref q_mark, .ref q_vertexPoint, .ref q_pointAt, .ref q_reached, .int t_size, .int t_vertexCount, .int t_allowedCount, .int t_areaBelow])), (q_gain, .inl (C 0, 1189, .inl t_gain)), (q_joy, .inl (C 0, 1189, .inl t_joy))] sz) := by
  refine Met.ofW (cc := cX2_greatestBy) (maxL := 7) (ret := (some .int)) (by decide) rfl ?_
  intro p e s m args below meth c s₁ B hml hv
  obtain ⟨rfl, hsz, hP, hK, hD0⟩ := hv
  have hx := B.exec
  have hb := B.bytes
  have hr := B.returns
  have hts := atoms_spec (ws := wsX2_greatestBy) B.pre
  have hown : s.vm.findClass RX2 = some m.cls := findClass_of_methodNamed B.named
  have hlocks := B.notSynchronized
  subst hsz
  have hD := hD0.self (sz := s.heap.size)
  generalize hAe : va_A [(q, .inr (2, [.ref q_gain, .ref q_joy, .ref q_choice, .ref q_times, .ref q_light, .ref q_mark, .ref q_vertexPoint, .ref q_pointAt, .ref q_reached, .int t_size, .int t_vertexCount, .int t_allowedCount, .int t_areaBelow])), (q_gain, .inl (C 0, 1189, .inl t_gain)), (q_joy, .inl (C 0, 1189, .inl t_joy))] s.heap.size = A at hD ⊢
  have hA : ∀ q : Nat, s.heap.size ≤ q → A q := fun q h => by rw [← hAe]; exact Or.inr h
  have hS : va_S A s.heap s.heap [] := va_S.rf
  have hl := lv_entry ([.ref q, .int p1, .int p2]) (n := 7) (Nat.le_of_ble_eq_true rfl)
  rw [lg_entry_eq]
  generalize (lg_sl ([.ref q, .int p1, .int p2]) ++ List.replicate (7 - (lg_sl ([.ref q, .int p1, .int p2])).length) Slot.unset).toArray = ls at hl ⊢
  have hl : lv_has ls 7 [(0, .ref q), (1, .int p1), (2, .int p2)] := hl
  have HL8 : ∀ (x1 : Int32) (x2 : Int32) (n : Nat) (x3 : Int32) (x4 : Int32) (x5 : Int32) (H : Heap) (locs : List Loc) (ls : Array Slot), lv_has ls 7 [(0, .ref q), (1, .int x1), (2, .int x2), (3, .int x3), (4, .int x4), (5, .int x5)] → va_P D vwCl [(q, .inr (2, [.ref q_gain, .ref q_joy, .ref q_choice, .ref q_times, .ref q_light, .ref q_mark, .ref q_vertexPoint, .ref q_pointAt, .ref q_reached, .int t_size, .int t_vertexCount, .int t_allowedCount, .int t_areaBelow])), (q_gain, .inl (C 0, 1189, .inl t_gain)), (q_joy, .inl (C 0, 1189, .inl t_joy))] H → va_D A [(q, .inr (2, [.ref q_gain, .ref q_joy, .ref q_choice, .ref q_times, .ref q_light, .ref q_mark, .ref q_vertexPoint, .ref q_pointAt, .ref q_reached, .int t_size, .int t_vertexCount, .int t_allowedCount, .int t_areaBelow])), (q_gain, .inl (C 0, 1189, .inl t_gain)), (q_joy, .inl (C 0, 1189, .inl t_joy))] → va_S A s.heap H locs → wp_X2_greatestBy_L8 t_size t_gain t_joy x1 x2 Q n x3 x4 x5 → W p l e (headSpec wsX2_greatestBy rm_X2_greatestBy).room s m ([.ref q, .int p1, .int p2] : List Value).toArray below meth c H locs 0 0 (MQ below (q_X2_greatestBy D C q q_gain q_joy q_choice q_times q_light q_mark q_vertexPoint q_pointAt q_reached t_size t_vertexCount t_allowedCount t_areaBelow t_gain t_joy Q A) ([.ref q, .int p1, .int p2] : List Value).toArray s 0 0 A) (F0 m 8 ls []) := by
    intro x1 x2 n
    induction n with
    | zero =>
      intro x3 x4 x5 H locs ls hl hP hD hS hwp
      exact False.elim hwp
    | succ n ih =>
      intro x3 x4 x5 H locs ls hl hP hD hS hwp
      unfold wp_X2_greatestBy_L8 at hwp
      refine lv_iload hx hb dX2_greatestBy_8 (lv_at hl 5 rfl) ?_
      refine lv_aload_n hx hb dX2_greatestBy_10 rfl (lv_at hl 0 rfl) ?_
      refine va_get (D := D) (ci := 2) (v := .int t_size) (C := RX2) (T := TX2) (N := 13) hx hb hts iwX2_greatestBy_X2 hown hK hP 0 rfl rfl 9 (by decide) (hts (.fieldLink RX2 67 "ParetoDesk$Frontier" "size" "I") (List.mem_of_getElem? (i := 1) rfl)) (fun _ h9 => h9) rfl dX2_greatestBy_11 ?_
      refine lv_icmp_ge (tgt := 47) hx hb dX2_greatestBy_14 (by decide) (fun c14 => ?_) (fun c14 => ?_)
      · have hwp := hwp.1 c14
        refine lv_iload_n hx hb dX2_greatestBy_47 rfl (lv_at hl 3 rfl) ?_
        have hP9 := hP.sub (ws' := [(q, .inr (2, [.ref q_gain, .ref q_joy, .ref q_choice, .ref q_times, .ref q_light, .ref q_mark, .ref q_vertexPoint, .ref q_pointAt, .ref q_reached, .int t_size, .int t_vertexCount, .int t_allowedCount, .int t_areaBelow])), (q_gain, .inl (C 0, 1189, .inl t_gain)), (q_joy, .inl (C 0, 1189, .inl t_joy))]) [0, 1, 2] rfl
        have hD9 := hD.sub (ws' := [(q, .inr (2, [.ref q_gain, .ref q_joy, .ref q_choice, .ref q_times, .ref q_light, .ref q_mark, .ref q_vertexPoint, .ref q_pointAt, .ref q_reached, .int t_size, .int t_vertexCount, .int t_allowedCount, .int t_areaBelow])), (q_gain, .inl (C 0, 1189, .inl t_gain)), (q_joy, .inl (C 0, 1189, .inl t_joy))]) [0, 1, 2] (by decide) rfl
        exact W.iret (v := x3) hx hb hr (fun t ht hW => ⟨⟨x3, (), rfl, hwp, by rw [ht]; exact hP9, va_K.moved hW.alike hK, hD9⟩, hS.F ht⟩) hS.2.2 dX2_greatestBy_48
      · have hwp := hwp.2 c14
        refine lv_aload_n hx hb dX2_greatestBy_17 rfl (lv_at hl 0 rfl) ?_
        refine lv_iload hx hb dX2_greatestBy_18 (lv_at hl 5 rfl) ?_
        refine lv_iload_n hx hb dX2_greatestBy_20 rfl (lv_at hl 1 rfl) ?_
        refine lv_iload_n hx hb dX2_greatestBy_21 rfl (lv_at hl 2 rfl) ?_
        have hPc := hP.sub (ws' := [(q, .inr (2, [.ref q_gain, .ref q_joy, .ref q_choice, .ref q_times, .ref q_light, .ref q_mark, .ref q_vertexPoint, .ref q_pointAt, .ref q_reached, .int t_size, .int t_vertexCount, .int t_allowedCount, .int t_areaBelow])), (q_gain, .inl (C 0, 1189, .inl t_gain)), (q_joy, .inl (C 0, 1189, .inl t_joy))]) [0, 1, 2] rfl
        have hDc := hD.sub (ws' := [(q, .inr (2, [.ref q_gain, .ref q_joy, .ref q_choice, .ref q_times, .ref q_light, .ref q_mark, .ref q_vertexPoint, .ref q_pointAt, .ref q_reached, .int t_size, .int t_vertexCount, .int t_allowedCount, .int t_areaBelow])), (q_gain, .inl (C 0, 1189, .inl t_gain)), (q_joy, .inl (C 0, 1189, .inl t_joy))]) [0, 1, 2] (by decide) rfl
        have hFc := va_free (wc := [(q, .inr (2, [.ref q_gain, .ref q_joy, .ref q_choice, .ref q_times, .ref q_light, .ref q_mark, .ref q_vertexPoint, .ref q_pointAt, .ref q_reached, .int t_size, .int t_vertexCount, .int t_allowedCount, .int t_areaBelow])), (q_gain, .inl (C 0, 1189, .inl t_gain)), (q_joy, .inl (C 0, 1189, .inl t_joy))]) hD hS hA [0, 1, 2] rfl
        refine va_calli (va_runV (As := [.int x5, .int x1, .int x2]) (rest := []) ⟨hx, hb, hml, hown, hts⟩ (met_X2_valueOf l D C q q_gain q_joy q_choice q_times q_light q_mark q_vertexPoint q_pointAt q_reached x5 x1 x2 t_size t_vertexCount t_allowedCount t_areaBelow t_gain t_joy H.size _ hwp) (cwV 3 hts gX2_greatestBy_X2_valueOf rfl rfl rfl (by decide +kernel) ⟨Nat.le_of_ble_eq_true rfl, Nat.le_of_ble_eq_true rfl⟩) ⟨fun a U g mk q => by obtain ⟨q0, q1, qP, qK, qD⟩ := q; exact ⟨q0, q1, qP, va_K.moved (u := U) (U := U.calling g mk a) (Vm.Alike.refl U.vm) qK, qD⟩, va_recv hK hPc (ci := 2) (q0 := 0) rfl rfl, fun U hU hW => ⟨rfl, by rw [hU], by rw [hU]; exact hPc, va_K.moved hW.alike hK, hDc.weaken (fun _ _ _ _ => trivial)⟩⟩ rfl rfl hl.1 rfl (lv_room (Nat.le_of_ble_eq_true rfl)) dX2_greatestBy_22 ⟨Nat.zero_le _, Nat.zero_le _⟩) hS (fun q _ h => hFc q h) hFc (fun r22 u t H1 locs ht hvm hwp hB hz1 hk1 hS => ?_)
        obtain ⟨hP1, -, hD1⟩ := hB
        rw [ht] at hP1
        obtain ⟨hP, hD⟩ := va_join (wr := []) (w1 := [(q, .inr (2, [.ref q_gain, .ref q_joy, .ref q_choice, .ref q_times, .ref q_light, .ref q_mark, .ref q_vertexPoint, .ref q_pointAt, .ref q_reached, .int t_size, .int t_vertexCount, .int t_allowedCount, .int t_areaBelow])), (q_gain, .inl (C 0, 1189, .inl t_gain)), (q_joy, .inl (C 0, 1189, .inl t_joy))]) hP hD [0, 1, 2] [] rfl rfl (by decide) (by decide) hk1 hFc hP1 hD1
        generalize H1 = H at hP hS ⊢
        have hP : va_P D vwCl [(q, .inr (2, [.ref q_gain, .ref q_joy, .ref q_choice, .ref q_times, .ref q_light, .ref q_mark, .ref q_vertexPoint, .ref q_pointAt, .ref q_reached, .int t_size, .int t_vertexCount, .int t_allowedCount, .int t_areaBelow])), (q_gain, .inl (C 0, 1189, .inl t_gain)), (q_joy, .inl (C 0, 1189, .inl t_joy))] H := hP
        have hD : va_D A [(q, .inr (2, [.ref q_gain, .ref q_joy, .ref q_choice, .ref q_times, .ref q_light, .ref q_mark, .ref q_vertexPoint, .ref q_pointAt, .ref q_reached, .int t_size, .int t_vertexCount, .int t_allowedCount, .int t_areaBelow])), (q_gain, .inl (C 0, 1189, .inl t_gain)), (q_joy, .inl (C 0, 1189, .inl t_joy))] := hD
        refine lv_istore (lv' := [(6, .int r22), (0, .ref q), (1, .int x1), (2, .int x2), (3, .int x3), (4, .int x4), (5, .int x5)]) hx hb dX2_greatestBy_25 hl (by decide) rfl (fun ls hl => ?_)
        refine lv_iload hx hb dX2_greatestBy_27 (lv_at hl 0 rfl) ?_
        refine lv_iload hx hb dX2_greatestBy_29 (lv_at hl 5 rfl) ?_
        refine lv_icmp_le (tgt := 41) hx hb dX2_greatestBy_31 (by decide) (fun c31 => ?_) (fun c31 => ?_)
        · have hwp := hwp.1 c31
          refine lv_iinc (v := x5 + 1) (lv' := [(5, .int (x5 + 1)), (6, .int r22), (0, .ref q), (1, .int x1), (2, .int x2), (3, .int x3), (4, .int x4)]) hx hb dX2_greatestBy_41 hl (k := 6) rfl rfl (by decide) rfl (fun ls hl => ?_)
          refine lv_goto (tgt := 8) hx hb dX2_greatestBy_44 (by decide) ?_
          have hl9 := lv_sub (l' := [(0, .ref q), (1, .int x1), (2, .int x2), (3, .int x3), (4, .int x4), (5, .int (x5 + 1))]) hl [2, 3, 4, 5, 6, 0] rfl
          have hP9 := hP.sub (ws' := [(q, .inr (2, [.ref q_gain, .ref q_joy, .ref q_choice, .ref q_times, .ref q_light, .ref q_mark, .ref q_vertexPoint, .ref q_pointAt, .ref q_reached, .int t_size, .int t_vertexCount, .int t_allowedCount, .int t_areaBelow])), (q_gain, .inl (C 0, 1189, .inl t_gain)), (q_joy, .inl (C 0, 1189, .inl t_joy))]) [0, 1, 2] rfl
          have hD9 := hD.sub (ws' := [(q, .inr (2, [.ref q_gain, .ref q_joy, .ref q_choice, .ref q_times, .ref q_light, .ref q_mark, .ref q_vertexPoint, .ref q_pointAt, .ref q_reached, .int t_size, .int t_vertexCount, .int t_allowedCount, .int t_areaBelow])), (q_gain, .inl (C 0, 1189, .inl t_gain)), (q_joy, .inl (C 0, 1189, .inl t_joy))]) [0, 1, 2] (by decide) rfl
          exact ih x3 x4 (x5 + 1) H locs ls hl9 hP9 hD9 hS hwp
        · have hwp := hwp.2 c31
          refine lv_iload hx hb dX2_greatestBy_34 (lv_at hl 0 rfl) ?_
          refine lv_istore (lv' := [(4, .int r22), (6, .int r22), (0, .ref q), (1, .int x1), (2, .int x2), (3, .int x3), (5, .int x5)]) hx hb dX2_greatestBy_36 hl (by decide) rfl (fun ls hl => ?_)
          refine lv_iload hx hb dX2_greatestBy_38 (lv_at hl 6 rfl) ?_
          refine lv_istore_n (lv' := [(3, .int x5), (4, .int r22), (6, .int r22), (0, .ref q), (1, .int x1), (2, .int x2), (5, .int x5)]) hx hb dX2_greatestBy_40 rfl hl (by decide) rfl (fun ls hl => ?_)
          refine lv_iinc (v := x5 + 1) (lv' := [(5, .int (x5 + 1)), (3, .int x5), (4, .int r22), (6, .int r22), (0, .ref q), (1, .int x1), (2, .int x2)]) hx hb dX2_greatestBy_41 hl (k := 6) rfl rfl (by decide) rfl (fun ls hl => ?_)
          refine lv_goto (tgt := 8) hx hb dX2_greatestBy_44 (by decide) ?_
          have hl9 := lv_sub (l' := [(0, .ref q), (1, .int x1), (2, .int x2), (3, .int x5), (4, .int r22), (5, .int (x5 + 1))]) hl [4, 5, 6, 1, 2, 0] rfl
          have hP9 := hP.sub (ws' := [(q, .inr (2, [.ref q_gain, .ref q_joy, .ref q_choice, .ref q_times, .ref q_light, .ref q_mark, .ref q_vertexPoint, .ref q_pointAt, .ref q_reached, .int t_size, .int t_vertexCount, .int t_allowedCount, .int t_areaBelow])), (q_gain, .inl (C 0, 1189, .inl t_gain)), (q_joy, .inl (C 0, 1189, .inl t_joy))]) [0, 1, 2] rfl
          have hD9 := hD.sub (ws' := [(q, .inr (2, [.ref q_gain, .ref q_joy, .ref q_choice, .ref q_times, .ref q_light, .ref q_mark, .ref q_vertexPoint, .ref q_pointAt, .ref q_reached, .int t_size, .int t_vertexCount, .int t_allowedCount, .int t_areaBelow])), (q_gain, .inl (C 0, 1189, .inl t_gain)), (q_joy, .inl (C 0, 1189, .inl t_joy))]) [0, 1, 2] (by decide) rfl
          exact ih x5 r22 (x5 + 1) H locs ls hl9 hP9 hD9 hS hwp
  unfold wp_X2_greatestBy at hwp
  have hP : va_P D vwCl [(q, .inr (2, [.ref q_gain, .ref q_joy, .ref q_choice, .ref q_times, .ref q_light, .ref q_mark, .ref q_vertexPoint, .ref q_pointAt, .ref q_reached, .int t_size, .int t_vertexCount, .int t_allowedCount, .int t_areaBelow])), (q_gain, .inl (C 0, 1189, .inl t_gain)), (q_joy, .inl (C 0, 1189, .inl t_joy))] s.heap := hP
  obtain ⟨H, hH⟩ : ∃ H, H = s.heap := ⟨_, rfl⟩
  obtain ⟨locs, hlo⟩ : ∃ z : List Loc, z = [] := ⟨_, rfl⟩
  have hP : va_P D vwCl [(q, .inr (2, [.ref q_gain, .ref q_joy, .ref q_choice, .ref q_times, .ref q_light, .ref q_mark, .ref q_vertexPoint, .ref q_pointAt, .ref q_reached, .int t_size, .int t_vertexCount, .int t_allowedCount, .int t_areaBelow])), (q_gain, .inl (C 0, 1189, .inl t_gain)), (q_joy, .inl (C 0, 1189, .inl t_joy))] H := by rw [hH]; exact hP
  have hS : va_S A s.heap H locs := by rw [hH, hlo]; exact hS
  suffices K : W p l e (headSpec wsX2_greatestBy rm_X2_greatestBy).room s m ([.ref q, .int p1, .int p2] : List Value).toArray below meth c H locs 0 0 (MQ below (q_X2_greatestBy D C q q_gain q_joy q_choice q_times q_light q_mark q_vertexPoint q_pointAt q_reached t_size t_vertexCount t_allowedCount t_areaBelow t_gain t_joy Q A) ([.ref q, .int p1, .int p2] : List Value).toArray s 0 0 A) (F0 m 0 ls []) from by rw [hH, hlo] at K; exact K
  refine lv_iconst (v := (-1)) hx hb dX2_greatestBy_0 (by decide) ?_
  refine lv_istore_n (lv' := [(3, .int (-1)), (0, .ref q), (1, .int p1), (2, .int p2)]) hx hb dX2_greatestBy_1 rfl hl (by decide) rfl (fun ls hl => ?_)
  refine lv_iconst (v := (-1)) hx hb dX2_greatestBy_2 (by decide) ?_
  refine lv_istore (lv' := [(4, .int (-1)), (3, .int (-1)), (0, .ref q), (1, .int p1), (2, .int p2)]) hx hb dX2_greatestBy_3 hl (by decide) rfl (fun ls hl => ?_)
  refine lv_iconst (v := 0) hx hb dX2_greatestBy_5 (by decide) ?_
  refine lv_istore (lv' := [(5, .int 0), (4, .int (-1)), (3, .int (-1)), (0, .ref q), (1, .int p1), (2, .int p2)]) hx hb dX2_greatestBy_6 hl (by decide) rfl (fun ls hl => ?_)
  have hl9 := lv_sub (l' := [(0, .ref q), (1, .int p1), (2, .int p2), (3, .int (-1)), (4, .int (-1)), (5, .int 0)]) hl [3, 4, 5, 2, 1, 0] rfl
  have hP9 := hP.sub (ws' := [(q, .inr (2, [.ref q_gain, .ref q_joy, .ref q_choice, .ref q_times, .ref q_light, .ref q_mark, .ref q_vertexPoint, .ref q_pointAt, .ref q_reached, .int t_size, .int t_vertexCount, .int t_allowedCount, .int t_areaBelow])), (q_gain, .inl (C 0, 1189, .inl t_gain)), (q_joy, .inl (C 0, 1189, .inl t_joy))]) [0, 1, 2] rfl
  have hD9 := hD.sub (ws' := [(q, .inr (2, [.ref q_gain, .ref q_joy, .ref q_choice, .ref q_times, .ref q_light, .ref q_mark, .ref q_vertexPoint, .ref q_pointAt, .ref q_reached, .int t_size, .int t_vertexCount, .int t_allowedCount, .int t_areaBelow])), (q_gain, .inl (C 0, 1189, .inl t_gain)), (q_joy, .inl (C 0, 1189, .inl t_joy))]) [0, 1, 2] (by decide) rfl
  obtain ⟨n9, hwp⟩ := hwp
  refine HL8 p1 p2 n9 (-1) (-1) 0 H locs ls hl9 hP9 hD9 hS hwp

