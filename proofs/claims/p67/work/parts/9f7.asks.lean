abbrev ws_L_asks : List Cond := .code yL_asks cL_asks 15 (some .boolean) :: WALL
theorem gc_L_127 : GoodIn WALL (wsV RL 127 RX10 yX10_points ws_X10_points) := gc_v wd_1115 wd_1116 wd_1117 wd_35 wd_1118
theorem gc_L_134 : GoodIn WALL (wsV RL 134 RX10 yX10_point ws_X10_point) := gc_v wd_1122 wd_1123 wd_1124 wd_35 wd_1125
theorem gc_L_166 : GoodIn WALL (wsV RL 166 RX10 yX10_pointOf ws_X10_pointOf) := gc_v wd_1196 wd_1197 wd_1198 wd_35 wd_1199
theorem gc_L_169 : GoodIn WALL (wsV RL 169 RX10 yX10_beatenBy ws_X10_beatenBy) := gc_v wd_1201 wd_1202 wd_1203 wd_35 wd_1204
theorem gc_L_172 : GoodIn WALL (wsV RL 172 RX10 yX10_beating ws_X10_beating) := gc_v wd_1209 wd_1210 wd_1211 wd_35 wd_1212
theorem gc_L_175 : GoodIn WALL (wsV RL 175 RX10 yX10_joyFor ws_X10_joyFor) := gc_v wd_1213 wd_1214 wd_1215 wd_35 wd_1216
theorem gc_L_178 : GoodIn WALL (wsV RL 178 RX10 yX10_gainFor ws_X10_gainFor) := gc_v wd_1217 wd_1218 wd_1219 wd_35 wd_1220
abbrev rm_L_asks : Room := { frames := 9, cells := 2, slots := 512, locals := 173 }
abbrev w_L_asks (C : Nat → ClassId) (ad : Nat → Nat) (d : DT) : va_W := ([] ++ wK C ad d)
abbrev q_L_asks (D : va_G) (C : Nat → ClassId) (ad : Nat → Nat) (Q : Int32 → DT → Prop) (A : Nat → Prop) : Array Value → State → Outcome → State → Prop := va_Qi (fun (r : Int32) (u : DT) => Q r u) (fun (u : DT) (t : State) => va_P D vwCl (w_L_asks C ad u) t.heap ∧ va_K D vwCl (tyL C) t ∧ va_D A (w_L_asks C ad u)) A
set_option maxHeartbeats 4000000 in
set_option maxRecDepth 100000 in
theorem met_L_asks (l : Launch) (hst : l.stackTraces = false) (D : va_G) (C : Nat → ClassId) (ad : Nat → Nat) (p1 : Int32) (d : DT) (sz : Nat) (Q : Int32 → DT → Prop) (hwp : wp_L_asks p1 d Q) : Met l yL_asks ws_L_asks rm_L_asks (va_Pc [.ref (ad 0), .int p1] (fun U => U.heap.size = sz ∧ va_P D vwCl (w_L_asks C ad d) U.heap ∧ va_K D vwCl (tyL C) U ∧ va_D (fun _ => True) (w_L_asks C ad d) ∧ TX (va_A (w_L_asks C ad d) sz) U U.heap)) (q_L_asks D C ad Q (va_A (w_L_asks C ad d) sz)) 2 512 (va_A (w_L_asks C ad d) sz) := by
  refine Met.ofW (cc := cL_asks) (maxL := 15) (ret := (some .boolean)) (by decide) rfl ?_
  intro p e s m args below meth c s₁ B hml hv
  obtain ⟨rfl, hsz, hP, hK, hD0, hT⟩ := hv
  have hx := B.exec
  have hb := B.bytes
  have hr := B.returns
  have hts : ∀ w ∈ WALL, w.before _ s = true := fun w h => atoms_spec (ws := ws_L_asks) B.pre w (List.mem_cons_of_mem _ h)
  have hown : s.vm.findClass RL = some m.cls := findClass_of_methodNamed B.named
  have hlocks := B.notSynchronized
  subst hsz
  have hD := hD0.self (sz := s.heap.size)
  generalize hAe : va_A (w_L_asks C ad d) s.heap.size = A at hD ⊢ hT
  have hA : ∀ q : Nat, s.heap.size ≤ q → A q := fun q h => by rw [← hAe]; exact Or.inr h
  have hS : va_S A s.heap s.heap [] := va_S.rf
  have hl := lv_entry ([.ref (ad 0), .int p1]) (n := 15) (Nat.le_of_ble_eq_true rfl)
  rw [lg_entry_eq]
  generalize (lg_sl ([.ref (ad 0), .int p1]) ++ List.replicate (15 - (lg_sl ([.ref (ad 0), .int p1])).length) Slot.unset).toArray = ls at hl ⊢
  have hl : lv_has ls 15 [(0, .ref (ad 0)), (1, .int p1)] := hl
  have HL17 : ∀ (a6 : Nat) (a10 : Nat) (n6 : Nat) (n10 : Nat) (x1 : Int32) (x2 : Int32) (k52 : DT → (Nat → Int32) → (Nat → Int32) → Prop) (hk52 : ∀ (d : DT) (ta6 : Nat → Int32) (ta10 : Nat → Int32) (H : Heap) (locs : List Loc) (ls : Array Slot), lv_has ls 15 [(0, .ref (ad 0)), (1, .int x1), (2, .int x2), (3, .ref a6), (4, .ref a10)] → va_P D vwCl ([(a6, .inl (C 0, n6, .inl ta6)), (a10, .inl (C 0, n10, .inl ta10))] ++ wK C ad d) H → va_D A ([(a6, .inl (C 0, n6, .inl ta6)), (a10, .inl (C 0, n10, .inl ta10))] ++ wK C ad d) → va_S A s.heap H locs → k52 d ta6 ta10 → W p l e (headSpec ws_L_asks rm_L_asks).room s m ([.ref (ad 0), .int p1] : List Value).toArray below meth c H locs 2 512 (MQ below (q_L_asks D C ad Q A) ([.ref (ad 0), .int p1] : List Value).toArray s 2 512 A) (F0 m 52 ls [])) (n17 : Nat) (x5 : Int32) (d : DT) (ta6 : Nat → Int32) (ta10 : Nat → Int32) (H : Heap) (locs : List Loc) (ls : Array Slot), lv_has ls 15 [(0, .ref (ad 0)), (1, .int x1), (2, .int x2), (3, .ref a6), (4, .ref a10), (5, .int x5)] → va_P D vwCl ([(a6, .inl (C 0, n6, .inl ta6)), (a10, .inl (C 0, n10, .inl ta10))] ++ wK C ad d) H → va_D A ([(a6, .inl (C 0, n6, .inl ta6)), (a10, .inl (C 0, n10, .inl ta10))] ++ wK C ad d) → va_S A s.heap H locs → wp_L_asks_L17 n6 n10 x1 x2 k52 Q n17 x5 d ta6 ta10 → W p l e (headSpec ws_L_asks rm_L_asks).room s m ([.ref (ad 0), .int p1] : List Value).toArray below meth c H locs 2 512 (MQ below (q_L_asks D C ad Q A) ([.ref (ad 0), .int p1] : List Value).toArray s 2 512 A) (F0 m 17 ls []) := by
    intro a6 a10 n6 n10 x1 x2 k52 hk52 n17
    induction n17 with
    | zero =>
      intro x5 d ta6 ta10 H locs ls hl hP hD hS hwp
      exact False.elim hwp
    | succ n17 ih =>
      intro x5 d ta6 ta10 H locs ls hl hP hD hS hwp
      unfold wp_L_asks_L17 at hwp
      refine lv_iload hx hb dL_asks_17 (lv_at hl 5 rfl) ?_
      refine lv_iload_n hx hb dL_asks_19 rfl (lv_at hl 2 rfl) ?_
      refine lv_icmp_ge (tgt := 52) hx hb dL_asks_20 (by decide) (fun c20 => ?_) (fun c20 => ?_)
      · have hwp := hwp.1 c20
        have hl9 := lv_sub (l' := [(0, .ref (ad 0)), (1, .int x1), (2, .int x2), (3, .ref a6), (4, .ref a10)]) hl [0, 1, 2, 3, 4] rfl
        have hP9 : va_P D vwCl ([(a6, .inl (C 0, n6, .inl ta6)), (a10, .inl (C 0, n10, .inl ta10))] ++ wK C ad d) H := bd_P (lc := [(a6, .inl (C 0, n6, .inl ta6)), (a10, .inl (C 0, n10, .inl ta10))]) hP [0, 1] rfl
        have hD9 : va_D A ([(a6, .inl (C 0, n6, .inl ta6)), (a10, .inl (C 0, n10, .inl ta10))] ++ wK C ad d) := bd_D (lc := [(a6, .inl (C 0, n6, .inl ta6)), (a10, .inl (C 0, n10, .inl ta10))]) hD [0, 1] rfl (by decide)
        exact hk52 d ta6 ta10 H locs ls hl9 hP9 hD9 hS hwp
      · have hwp := hwp.2 c20
        refine lv_aload_n hx hb dL_asks_23 rfl (lv_at hl 3 rfl) ?_
        refine lv_iload hx hb dL_asks_24 (lv_at hl 5 rfl) ?_
        refine lv_aload_n hx hb dL_asks_26 rfl (lv_at hl 0 rfl) ?_
        refine lv_iload hx hb dL_asks_27 (lv_at hl 5 rfl) ?_
        refine lv_iconst (v := 0) hx hb dL_asks_29 (by decide) ?_
        have hPc : va_P D vwCl ([] ++ wK C ad d) H := bd_P (lc := []) hP [] rfl
        have hDc : va_D A ([] ++ wK C ad d) := bd_D (lc := []) hD [] rfl (by decide)
        have hFc : ∀ q, va_A ([] ++ wK C ad d) H.size q → A q := bd_free (lc := []) hD hS hA [] rfl
        refine va_calli (va_runV (As := [.int x5, .int (0 : Int32)]) (rest := [.int x5, .ref a6]) ⟨hx, hb, hml, hown, hts⟩ (mk_X10_point l hst D C ad x5 (0 : Int32) d H.size _ hwp) (cwV 2 hts gc_L_134 rfl rfl rfl (by decide +kernel) ⟨Nat.le_of_ble_eq_true rfl, Nat.le_of_ble_eq_true rfl⟩) ⟨fun a U g mk q => by obtain ⟨q0, q1, qP, qK, qD, qT⟩ := q; exact ⟨q0, q1, qP, va_K.moved (u := U) (U := U.calling g mk a) (Vm.Alike.refl U.vm) qK, qD, qT.mv (U := U.calling g mk a) (State.WarmedH.refl U)⟩, va_recv hK hPc (ci := 10) (q0 := 0) rfl rfl, fun U hU hW => ⟨rfl, by rw [hU], by rw [hU]; exact hPc, va_K.moved hW.alike hK, hDc.weaken (fun _ _ _ _ => trivial), hT.call hS hFc hU hW⟩⟩ rfl rfl hl.1 rfl (lv_room (Nat.le_of_ble_eq_true rfl)) dL_asks_30 ⟨Nat.le_of_ble_eq_true rfl, Nat.le_of_ble_eq_true rfl⟩) hS (fun q _ h => hFc q h) hFc (fun r30 u t H1 locs ht hvm hwp hB hz1 hk1 hS => ?_)
        obtain ⟨u30_2, rfl⟩ : ∃ z, z = u := ⟨_, rfl⟩
        obtain ⟨hP1, -, hD1⟩ := hB
        rw [ht] at hP1
        obtain ⟨hP, hD⟩ := bd_join (lr := [(a6, .inl (C 0, n6, .inl ta6)), (a10, .inl (C 0, n10, .inl ta10))]) (l1 := []) (b1 := wK C ad u30_2) hP hD [] [0, 1] rfl rfl (by decide) (by decide) hk1 hFc hP1 hD1
        generalize H1 = H at hP hS ⊢
        have hP : va_P D vwCl ([(a6, .inl (C 0, n6, .inl ta6)), (a10, .inl (C 0, n10, .inl ta10))] ++ wK C ad u30_2) H := hP
        have hD : va_D A ([(a6, .inl (C 0, n6, .inl ta6)), (a10, .inl (C 0, n10, .inl ta10))] ++ wK C ad u30_2) := hD
        obtain ⟨hi33, hwp⟩ := hwp
        refine va_iast (D := D) hx hb hK hP hD hS 0 0 rfl rfl hi33 dL_asks_33 (fun H locs hP hD hS => ?_)
        have hP : va_P D vwCl ([(a6, .inl (C 0, n6, .inl (upd ta6 x5.toNatClampNeg r30))), (a10, .inl (C 0, n10, .inl ta10))] ++ wK C ad u30_2) H := hP
        have hD : va_D A ([(a6, .inl (C 0, n6, .inl (upd ta6 x5.toNatClampNeg r30))), (a10, .inl (C 0, n10, .inl ta10))] ++ wK C ad u30_2) := hD
        refine lv_aload hx hb dL_asks_34 (lv_at hl 4 rfl) ?_
        refine lv_iload hx hb dL_asks_36 (lv_at hl 5 rfl) ?_
        refine lv_aload_n hx hb dL_asks_38 rfl (lv_at hl 0 rfl) ?_
        refine lv_iload hx hb dL_asks_39 (lv_at hl 5 rfl) ?_
        refine lv_iconst (v := 1) hx hb dL_asks_41 (by decide) ?_
        have hPc : va_P D vwCl ([] ++ wK C ad u30_2) H := bd_P (lc := []) hP [] rfl
        have hDc : va_D A ([] ++ wK C ad u30_2) := bd_D (lc := []) hD [] rfl (by decide)
        have hFc : ∀ q, va_A ([] ++ wK C ad u30_2) H.size q → A q := bd_free (lc := []) hD hS hA [] rfl
        refine va_calli (va_runV (As := [.int x5, .int (1 : Int32)]) (rest := [.int x5, .ref a10]) ⟨hx, hb, hml, hown, hts⟩ (mk_X10_point l hst D C ad x5 (1 : Int32) u30_2 H.size _ hwp) (cwV 2 hts gc_L_134 rfl rfl rfl (by decide +kernel) ⟨Nat.le_of_ble_eq_true rfl, Nat.le_of_ble_eq_true rfl⟩) ⟨fun a U g mk q => by obtain ⟨q0, q1, qP, qK, qD, qT⟩ := q; exact ⟨q0, q1, qP, va_K.moved (u := U) (U := U.calling g mk a) (Vm.Alike.refl U.vm) qK, qD, qT.mv (U := U.calling g mk a) (State.WarmedH.refl U)⟩, va_recv hK hPc (ci := 10) (q0 := 0) rfl rfl, fun U hU hW => ⟨rfl, by rw [hU], by rw [hU]; exact hPc, va_K.moved hW.alike hK, hDc.weaken (fun _ _ _ _ => trivial), hT.call hS hFc hU hW⟩⟩ rfl rfl hl.1 rfl (lv_room (Nat.le_of_ble_eq_true rfl)) dL_asks_42 ⟨Nat.le_of_ble_eq_true rfl, Nat.le_of_ble_eq_true rfl⟩) hS (fun q _ h => hFc q h) hFc (fun r42 u t H1 locs ht hvm hwp hB hz1 hk1 hS => ?_)
        obtain ⟨u42_3, rfl⟩ : ∃ z, z = u := ⟨_, rfl⟩
        obtain ⟨hP1, -, hD1⟩ := hB
        rw [ht] at hP1
        obtain ⟨hP, hD⟩ := bd_join (lr := [(a6, .inl (C 0, n6, .inl (upd ta6 x5.toNatClampNeg r30))), (a10, .inl (C 0, n10, .inl ta10))]) (l1 := []) (b1 := wK C ad u42_3) hP hD [] [0, 1] rfl rfl (by decide) (by decide) hk1 hFc hP1 hD1
        generalize H1 = H at hP hS ⊢
        have hP : va_P D vwCl ([(a6, .inl (C 0, n6, .inl (upd ta6 x5.toNatClampNeg r30))), (a10, .inl (C 0, n10, .inl ta10))] ++ wK C ad u42_3) H := hP
        have hD : va_D A ([(a6, .inl (C 0, n6, .inl (upd ta6 x5.toNatClampNeg r30))), (a10, .inl (C 0, n10, .inl ta10))] ++ wK C ad u42_3) := hD
        obtain ⟨hi45, hwp⟩ := hwp
        refine va_iast (D := D) hx hb hK hP hD hS 1 0 rfl rfl hi45 dL_asks_45 (fun H locs hP hD hS => ?_)
        have hP : va_P D vwCl ([(a6, .inl (C 0, n6, .inl (upd ta6 x5.toNatClampNeg r30))), (a10, .inl (C 0, n10, .inl (upd ta10 x5.toNatClampNeg r42)))] ++ wK C ad u42_3) H := hP
        have hD : va_D A ([(a6, .inl (C 0, n6, .inl (upd ta6 x5.toNatClampNeg r30))), (a10, .inl (C 0, n10, .inl (upd ta10 x5.toNatClampNeg r42)))] ++ wK C ad u42_3) := hD
        refine lv_iinc (v := x5 + 1) (lv' := [(5, .int (x5 + 1)), (0, .ref (ad 0)), (1, .int x1), (2, .int x2), (3, .ref a6), (4, .ref a10)]) hx hb dL_asks_46 hl (k := 5) rfl rfl (by decide) rfl (fun ls hl => ?_)
        refine lv_goto (tgt := 17) hx hb dL_asks_49 (by decide) ?_
        have hl9 := lv_sub (l' := [(0, .ref (ad 0)), (1, .int x1), (2, .int x2), (3, .ref a6), (4, .ref a10), (5, .int (x5 + 1))]) hl [1, 2, 3, 4, 5, 0] rfl
        have hP9 : va_P D vwCl ([(a6, .inl (C 0, n6, .inl (upd ta6 x5.toNatClampNeg r30))), (a10, .inl (C 0, n10, .inl (upd ta10 x5.toNatClampNeg r42)))] ++ wK C ad u42_3) H := bd_P (lc := [(a6, .inl (C 0, n6, .inl (upd ta6 x5.toNatClampNeg r30))), (a10, .inl (C 0, n10, .inl (upd ta10 x5.toNatClampNeg r42)))]) hP [0, 1] rfl
        have hD9 : va_D A ([(a6, .inl (C 0, n6, .inl (upd ta6 x5.toNatClampNeg r30))), (a10, .inl (C 0, n10, .inl (upd ta10 x5.toNatClampNeg r42)))] ++ wK C ad u42_3) := bd_D (lc := [(a6, .inl (C 0, n6, .inl (upd ta6 x5.toNatClampNeg r30))), (a10, .inl (C 0, n10, .inl (upd ta10 x5.toNatClampNeg r42)))]) hD [0, 1] rfl (by decide)
        exact ih (x5 + 1) u42_3 (upd ta6 x5.toNatClampNeg r30) (upd ta10 x5.toNatClampNeg r42) H locs ls hl9 hP9 hD9 hS hwp
  have HB203 : ∀ (a6 : Nat) (a10 : Nat) (n6 : Nat) (n10 : Nat) (x1 : Int32) (x2 : Int32) (x5 : Int32) (x6 : Int32) (x7 : Int32) (d : DT) (ta6 : Nat → Int32) (ta10 : Nat → Int32) (k99 : Int32 → Int32 → Int32 → Int32 → Int32 → Int32 → Prop) (hk99 : ∀ (x8 : Int32) (x9 : Int32) (x10 : Int32) (x11 : Int32) (x12 : Int32) (x13 : Int32) (H : Heap) (locs : List Loc) (ls : Array Slot), lv_has ls 15 [(0, .ref (ad 0)), (1, .int x1), (2, .int x2), (3, .ref a6), (4, .ref a10), (5, .int x5), (6, .int x6), (7, .int x7), (8, .int x8), (9, .int x9), (10, .int x10), (11, .int x11), (12, .int x12), (13, .int x13)] → va_P D vwCl ([(a6, .inl (C 0, n6, .inl ta6)), (a10, .inl (C 0, n10, .inl ta10))] ++ wK C ad d) H → va_D A ([(a6, .inl (C 0, n6, .inl ta6)), (a10, .inl (C 0, n10, .inl ta10))] ++ wK C ad d) → va_S A s.heap H locs → k99 x8 x9 x10 x11 x12 x13 → W p l e (headSpec ws_L_asks rm_L_asks).room s m ([.ref (ad 0), .int p1] : List Value).toArray below meth c H locs 2 512 (MQ below (q_L_asks D C ad Q A) ([.ref (ad 0), .int p1] : List Value).toArray s 2 512 A) (F0 m 99 ls [])) (k237 : Int32 → Int32 → Int32 → Int32 → Int32 → Prop) (hk237 : ∀ (x8 : Int32) (x9 : Int32) (x10 : Int32) (x11 : Int32) (x12 : Int32) (H : Heap) (locs : List Loc) (ls : Array Slot), lv_has ls 15 [(0, .ref (ad 0)), (1, .int x1), (2, .int x2), (3, .ref a6), (4, .ref a10), (5, .int x5), (6, .int x6), (7, .int x7), (8, .int x8), (9, .int x9), (10, .int x10), (11, .int x11), (12, .int x12)] → va_P D vwCl ([(a6, .inl (C 0, n6, .inl ta6)), (a10, .inl (C 0, n10, .inl ta10))] ++ wK C ad d) H → va_D A ([(a6, .inl (C 0, n6, .inl ta6)), (a10, .inl (C 0, n10, .inl ta10))] ++ wK C ad d) → va_S A s.heap H locs → k237 x8 x9 x10 x11 x12 → W p l e (headSpec ws_L_asks rm_L_asks).room s m ([.ref (ad 0), .int p1] : List Value).toArray below meth c H locs 2 512 (MQ below (q_L_asks D C ad Q A) ([.ref (ad 0), .int p1] : List Value).toArray s 2 512 A) (F0 m 237 ls [])) (x8 : Int32) (x9 : Int32) (x10 : Int32) (x12 : Int32) (x13 : Int32) (z203_0 : Int32) (H : Heap) (locs : List Loc) (ls : Array Slot), lv_has ls 15 [(0, .ref (ad 0)), (1, .int x1), (2, .int x2), (3, .ref a6), (4, .ref a10), (5, .int x5), (6, .int x6), (7, .int x7), (8, .int x8), (9, .int x9), (10, .int x10), (12, .int x12), (13, .int x13)] → va_P D vwCl ([(a6, .inl (C 0, n6, .inl ta6)), (a10, .inl (C 0, n10, .inl ta10))] ++ wK C ad d) H → va_D A ([(a6, .inl (C 0, n6, .inl ta6)), (a10, .inl (C 0, n10, .inl ta10))] ++ wK C ad d) → va_S A s.heap H locs → wp_L_asks_b203 n6 n10 x1 x2 x5 x6 x7 d ta6 ta10 k99 k237 Q x8 x9 x10 x12 x13 z203_0 → W p l e (headSpec ws_L_asks rm_L_asks).room s m ([.ref (ad 0), .int p1] : List Value).toArray below meth c H locs 2 512 (MQ below (q_L_asks D C ad Q A) ([.ref (ad 0), .int p1] : List Value).toArray s 2 512 A) (F0 m 203 ls [.int z203_0]) := by
    intro a6 a10 n6 n10 x1 x2 x5 x6 x7 d ta6 ta10 k99 hk99 k237 hk237 x8 x9 x10 x12 x13 z203_0 H locs ls hl hP hD hS hwp
    unfold wp_L_asks_b203 at hwp
    refine lv_istore (lv' := [(11, .int z203_0), (0, .ref (ad 0)), (1, .int x1), (2, .int x2), (3, .ref a6), (4, .ref a10), (5, .int x5), (6, .int x6), (7, .int x7), (8, .int x8), (9, .int x9), (10, .int x10), (12, .int x12), (13, .int x13)]) hx hb dL_asks_203 hl (by decide) rfl (fun ls hl => ?_)
    refine lv_aload hx hb dL_asks_205 (lv_at hl 5 rfl) ?_
    refine lv_iload hx hb dL_asks_207 (lv_at hl 13 rfl) ?_
    obtain ⟨hi209, hwp⟩ := hwp
    refine va_iald (D := D) hx hb hK hP 1 0 rfl rfl hi209 dL_asks_209 ?_
    refine lv_iload hx hb dL_asks_210 (lv_at hl 8 rfl) ?_
    refine lv_icmp_lt (tgt := 227) hx hb dL_asks_212 (by decide) (fun c212 => ?_) (fun c212 => ?_)
    · have hwp := hwp.1 c212
      refine lv_iload hx hb dL_asks_227 (lv_at hl 12 rfl) ?_
      refine lv_istore (lv' := [(12, .int x12), (11, .int z203_0), (0, .ref (ad 0)), (1, .int x1), (2, .int x2), (3, .ref a6), (4, .ref a10), (5, .int x5), (6, .int x6), (7, .int x7), (8, .int x8), (9, .int x9), (10, .int x10), (13, .int x13)]) hx hb dL_asks_229 hl (by decide) rfl (fun ls hl => ?_)
      refine lv_iinc (v := x13 + (-1)) (lv' := [(13, .int (x13 + (-1))), (12, .int x12), (11, .int z203_0), (0, .ref (ad 0)), (1, .int x1), (2, .int x2), (3, .ref a6), (4, .ref a10), (5, .int x5), (6, .int x6), (7, .int x7), (8, .int x8), (9, .int x9), (10, .int x10)]) hx hb dL_asks_231 hl (k := 13) rfl rfl (by decide) rfl (fun ls hl => ?_)
      refine lv_goto (tgt := 99) hx hb dL_asks_234 (by decide) ?_
      have hl9 := lv_sub (l' := [(0, .ref (ad 0)), (1, .int x1), (2, .int x2), (3, .ref a6), (4, .ref a10), (5, .int x5), (6, .int x6), (7, .int x7), (8, .int x8), (9, .int x9), (10, .int x10), (11, .int z203_0), (12, .int x12), (13, .int (x13 + (-1)))]) hl [3, 4, 5, 6, 7, 8, 9, 10, 11, 12, 13, 2, 1, 0] rfl
      have hP9 : va_P D vwCl ([(a6, .inl (C 0, n6, .inl ta6)), (a10, .inl (C 0, n10, .inl ta10))] ++ wK C ad d) H := bd_P (lc := [(a6, .inl (C 0, n6, .inl ta6)), (a10, .inl (C 0, n10, .inl ta10))]) hP [0, 1] rfl
      have hD9 : va_D A ([(a6, .inl (C 0, n6, .inl ta6)), (a10, .inl (C 0, n10, .inl ta10))] ++ wK C ad d) := bd_D (lc := [(a6, .inl (C 0, n6, .inl ta6)), (a10, .inl (C 0, n10, .inl ta10))]) hD [0, 1] rfl (by decide)
      exact hk99 x8 x9 x10 z203_0 x12 (x13 + (-1)) H locs ls hl9 hP9 hD9 hS hwp
    · have hwp := hwp.2 c212
      refine lv_iload hx hb dL_asks_215 (lv_at hl 12 rfl) ?_
      refine lv_aload_n hx hb dL_asks_217 rfl (lv_at hl 4 rfl) ?_
      refine lv_iload hx hb dL_asks_218 (lv_at hl 13 rfl) ?_
      obtain ⟨hi220, hwp⟩ := hwp
      refine va_iald (D := D) hx hb hK hP 0 0 rfl rfl hi220 dL_asks_220 ?_
      refine va_mmax (own := RL) (index := 163) hx hb (hml.trans hl.1.symm) hown (hts (.methodLink RL 163 Lib.Math.max.name) wd_1195) (hts (.static Lib.Math.max.name) wd_628) (hts (.initialized "java/lang/Math") wd_51) (hts (.code Lib.Math.max.name Lib.Math.max.code 2 (some .int)) wd_629_0) (Nat.le_of_ble_eq_true rfl) (Nat.le_of_ble_eq_true rfl) (Nat.le_of_ble_eq_true rfl) (Nat.le_of_ble_eq_true rfl) dL_asks_221 ?_
      refine lv_goto (tgt := 229) hx hb dL_asks_224 (by decide) ?_
      refine lv_topi (fun v229 ev229 => ?_)
      have hwp := hwp v229 ev229
      refine lv_istore (lv' := [(12, .int v229), (11, .int z203_0), (0, .ref (ad 0)), (1, .int x1), (2, .int x2), (3, .ref a6), (4, .ref a10), (5, .int x5), (6, .int x6), (7, .int x7), (8, .int x8), (9, .int x9), (10, .int x10), (13, .int x13)]) hx hb dL_asks_229 hl (by decide) rfl (fun ls hl => ?_)
      refine lv_iinc (v := x13 + (-1)) (lv' := [(13, .int (x13 + (-1))), (12, .int v229), (11, .int z203_0), (0, .ref (ad 0)), (1, .int x1), (2, .int x2), (3, .ref a6), (4, .ref a10), (5, .int x5), (6, .int x6), (7, .int x7), (8, .int x8), (9, .int x9), (10, .int x10)]) hx hb dL_asks_231 hl (k := 13) rfl rfl (by decide) rfl (fun ls hl => ?_)
      refine lv_goto (tgt := 99) hx hb dL_asks_234 (by decide) ?_
      have hl9 := lv_sub (l' := [(0, .ref (ad 0)), (1, .int x1), (2, .int x2), (3, .ref a6), (4, .ref a10), (5, .int x5), (6, .int x6), (7, .int x7), (8, .int x8), (9, .int x9), (10, .int x10), (11, .int z203_0), (12, .int v229), (13, .int (x13 + (-1)))]) hl [3, 4, 5, 6, 7, 8, 9, 10, 11, 12, 13, 2, 1, 0] rfl
      have hP9 : va_P D vwCl ([(a6, .inl (C 0, n6, .inl ta6)), (a10, .inl (C 0, n10, .inl ta10))] ++ wK C ad d) H := bd_P (lc := [(a6, .inl (C 0, n6, .inl ta6)), (a10, .inl (C 0, n10, .inl ta10))]) hP [0, 1] rfl
      have hD9 : va_D A ([(a6, .inl (C 0, n6, .inl ta6)), (a10, .inl (C 0, n10, .inl ta10))] ++ wK C ad d) := bd_D (lc := [(a6, .inl (C 0, n6, .inl ta6)), (a10, .inl (C 0, n10, .inl ta10))]) hD [0, 1] rfl (by decide)
      exact hk99 x8 x9 x10 z203_0 v229 (x13 + (-1)) H locs ls hl9 hP9 hD9 hS hwp
  have HB176 : ∀ (a6 : Nat) (a10 : Nat) (n6 : Nat) (n10 : Nat) (x1 : Int32) (x2 : Int32) (x5 : Int32) (x6 : Int32) (x7 : Int32) (d : DT) (ta6 : Nat → Int32) (ta10 : Nat → Int32) (k99 : Int32 → Int32 → Int32 → Int32 → Int32 → Int32 → Prop) (hk99 : ∀ (x8 : Int32) (x9 : Int32) (x10 : Int32) (x11 : Int32) (x12 : Int32) (x13 : Int32) (H : Heap) (locs : List Loc) (ls : Array Slot), lv_has ls 15 [(0, .ref (ad 0)), (1, .int x1), (2, .int x2), (3, .ref a6), (4, .ref a10), (5, .int x5), (6, .int x6), (7, .int x7), (8, .int x8), (9, .int x9), (10, .int x10), (11, .int x11), (12, .int x12), (13, .int x13)] → va_P D vwCl ([(a6, .inl (C 0, n6, .inl ta6)), (a10, .inl (C 0, n10, .inl ta10))] ++ wK C ad d) H → va_D A ([(a6, .inl (C 0, n6, .inl ta6)), (a10, .inl (C 0, n10, .inl ta10))] ++ wK C ad d) → va_S A s.heap H locs → k99 x8 x9 x10 x11 x12 x13 → W p l e (headSpec ws_L_asks rm_L_asks).room s m ([.ref (ad 0), .int p1] : List Value).toArray below meth c H locs 2 512 (MQ below (q_L_asks D C ad Q A) ([.ref (ad 0), .int p1] : List Value).toArray s 2 512 A) (F0 m 99 ls [])) (k237 : Int32 → Int32 → Int32 → Int32 → Int32 → Prop) (hk237 : ∀ (x8 : Int32) (x9 : Int32) (x10 : Int32) (x11 : Int32) (x12 : Int32) (H : Heap) (locs : List Loc) (ls : Array Slot), lv_has ls 15 [(0, .ref (ad 0)), (1, .int x1), (2, .int x2), (3, .ref a6), (4, .ref a10), (5, .int x5), (6, .int x6), (7, .int x7), (8, .int x8), (9, .int x9), (10, .int x10), (11, .int x11), (12, .int x12)] → va_P D vwCl ([(a6, .inl (C 0, n6, .inl ta6)), (a10, .inl (C 0, n10, .inl ta10))] ++ wK C ad d) H → va_D A ([(a6, .inl (C 0, n6, .inl ta6)), (a10, .inl (C 0, n10, .inl ta10))] ++ wK C ad d) → va_S A s.heap H locs → k237 x8 x9 x10 x11 x12 → W p l e (headSpec ws_L_asks rm_L_asks).room s m ([.ref (ad 0), .int p1] : List Value).toArray below meth c H locs 2 512 (MQ below (q_L_asks D C ad Q A) ([.ref (ad 0), .int p1] : List Value).toArray s 2 512 A) (F0 m 237 ls [])) (x8 : Int32) (x9 : Int32) (x11 : Int32) (x12 : Int32) (x13 : Int32) (z176_0 : Int32) (z176_1 : Int32) (H : Heap) (locs : List Loc) (ls : Array Slot), lv_has ls 15 [(0, .ref (ad 0)), (1, .int x1), (2, .int x2), (3, .ref a6), (4, .ref a10), (5, .int x5), (6, .int x6), (7, .int x7), (8, .int x8), (9, .int x9), (11, .int x11), (12, .int x12), (13, .int x13)] → va_P D vwCl ([(a6, .inl (C 0, n6, .inl ta6)), (a10, .inl (C 0, n10, .inl ta10))] ++ wK C ad d) H → va_D A ([(a6, .inl (C 0, n6, .inl ta6)), (a10, .inl (C 0, n10, .inl ta10))] ++ wK C ad d) → va_S A s.heap H locs → wp_L_asks_b176 n6 n10 x1 x2 x5 x6 x7 d ta6 ta10 k99 k237 Q x8 x9 x11 x12 x13 z176_0 z176_1 → W p l e (headSpec ws_L_asks rm_L_asks).room s m ([.ref (ad 0), .int p1] : List Value).toArray below meth c H locs 2 512 (MQ below (q_L_asks D C ad Q A) ([.ref (ad 0), .int p1] : List Value).toArray s 2 512 A) (F0 m 176 ls [.int z176_1, .int z176_0]) := by
    intro a6 a10 n6 n10 x1 x2 x5 x6 x7 d ta6 ta10 k99 hk99 k237 hk237 x8 x9 x11 x12 x13 z176_0 z176_1 H locs ls hl hP hD hS hwp
    unfold wp_L_asks_b176 at hwp
    refine lv_iadd hx hb dL_asks_176 ?_
    refine lv_topi (fun v177 ev177 => ?_)
    have hwp := hwp v177 ev177
    refine lv_istore (lv' := [(10, .int v177), (0, .ref (ad 0)), (1, .int x1), (2, .int x2), (3, .ref a6), (4, .ref a10), (5, .int x5), (6, .int x6), (7, .int x7), (8, .int x8), (9, .int x9), (11, .int x11), (12, .int x12), (13, .int x13)]) hx hb dL_asks_177 hl (by decide) rfl (fun ls hl => ?_)
    refine lv_aload_n hx hb dL_asks_179 rfl (lv_at hl 4 rfl) ?_
    refine lv_iload hx hb dL_asks_180 (lv_at hl 13 rfl) ?_
    obtain ⟨hi182, hwp⟩ := hwp
    refine va_iald (D := D) hx hb hK hP 0 0 rfl rfl hi182 dL_asks_182 ?_
    refine lv_iload hx hb dL_asks_183 (lv_at hl 7 rfl) ?_
    refine lv_icmp_lt (tgt := 201) hx hb dL_asks_185 (by decide) (fun c185 => ?_) (fun c185 => ?_)
    · have hwp := hwp.1 c185
      refine lv_iload hx hb dL_asks_201 (lv_at hl 11 rfl) ?_
      have hl9 := lv_sub (l' := [(0, .ref (ad 0)), (1, .int x1), (2, .int x2), (3, .ref a6), (4, .ref a10), (5, .int x5), (6, .int x6), (7, .int x7), (8, .int x8), (9, .int x9), (10, .int v177), (12, .int x12), (13, .int x13)]) hl [1, 2, 3, 4, 5, 6, 7, 8, 9, 10, 0, 12, 13] rfl
      have hP9 : va_P D vwCl ([(a6, .inl (C 0, n6, .inl ta6)), (a10, .inl (C 0, n10, .inl ta10))] ++ wK C ad d) H := bd_P (lc := [(a6, .inl (C 0, n6, .inl ta6)), (a10, .inl (C 0, n10, .inl ta10))]) hP [0, 1] rfl
      have hD9 : va_D A ([(a6, .inl (C 0, n6, .inl ta6)), (a10, .inl (C 0, n10, .inl ta10))] ++ wK C ad d) := bd_D (lc := [(a6, .inl (C 0, n6, .inl ta6)), (a10, .inl (C 0, n10, .inl ta10))]) hD [0, 1] rfl (by decide)
      exact HB203 a6 a10 n6 n10 x1 x2 x5 x6 x7 d ta6 ta10 _ hk99 _ hk237 x8 x9 v177 x12 x13 x11 H locs ls hl9 hP9 hD9 hS hwp
    · have hwp := hwp.2 c185
      refine lv_iload hx hb dL_asks_188 (lv_at hl 11 rfl) ?_
      refine lv_aload hx hb dL_asks_190 (lv_at hl 5 rfl) ?_
      refine lv_iload hx hb dL_asks_192 (lv_at hl 13 rfl) ?_
      obtain ⟨hi194, hwp⟩ := hwp
      refine va_iald (D := D) hx hb hK hP 1 0 rfl rfl hi194 dL_asks_194 ?_
      refine va_mmax (own := RL) (index := 163) hx hb (hml.trans hl.1.symm) hown (hts (.methodLink RL 163 Lib.Math.max.name) wd_1195) (hts (.static Lib.Math.max.name) wd_628) (hts (.initialized "java/lang/Math") wd_51) (hts (.code Lib.Math.max.name Lib.Math.max.code 2 (some .int)) wd_629_0) (Nat.le_of_ble_eq_true rfl) (Nat.le_of_ble_eq_true rfl) (Nat.le_of_ble_eq_true rfl) (Nat.le_of_ble_eq_true rfl) dL_asks_195 ?_
      refine lv_goto (tgt := 203) hx hb dL_asks_198 (by decide) ?_
      have hl9 := lv_sub (l' := [(0, .ref (ad 0)), (1, .int x1), (2, .int x2), (3, .ref a6), (4, .ref a10), (5, .int x5), (6, .int x6), (7, .int x7), (8, .int x8), (9, .int x9), (10, .int v177), (12, .int x12), (13, .int x13)]) hl [1, 2, 3, 4, 5, 6, 7, 8, 9, 10, 0, 12, 13] rfl
      have hP9 : va_P D vwCl ([(a6, .inl (C 0, n6, .inl ta6)), (a10, .inl (C 0, n10, .inl ta10))] ++ wK C ad d) H := bd_P (lc := [(a6, .inl (C 0, n6, .inl ta6)), (a10, .inl (C 0, n10, .inl ta10))]) hP [0, 1] rfl
      have hD9 : va_D A ([(a6, .inl (C 0, n6, .inl ta6)), (a10, .inl (C 0, n10, .inl ta10))] ++ wK C ad d) := bd_D (lc := [(a6, .inl (C 0, n6, .inl ta6)), (a10, .inl (C 0, n10, .inl ta10))]) hD [0, 1] rfl (by decide)
      exact HB203 a6 a10 n6 n10 x1 x2 x5 x6 x7 d ta6 ta10 _ hk99 _ hk237 x8 x9 v177 x12 x13 (if x11 < (ta10 x13.toNatClampNeg) then ta10 x13.toNatClampNeg else x11) H locs ls hl9 hP9 hD9 hS hwp
  have HB162 : ∀ (a6 : Nat) (a10 : Nat) (n6 : Nat) (n10 : Nat) (x1 : Int32) (x2 : Int32) (x5 : Int32) (x6 : Int32) (x7 : Int32) (d : DT) (ta6 : Nat → Int32) (ta10 : Nat → Int32) (k99 : Int32 → Int32 → Int32 → Int32 → Int32 → Int32 → Prop) (hk99 : ∀ (x8 : Int32) (x9 : Int32) (x10 : Int32) (x11 : Int32) (x12 : Int32) (x13 : Int32) (H : Heap) (locs : List Loc) (ls : Array Slot), lv_has ls 15 [(0, .ref (ad 0)), (1, .int x1), (2, .int x2), (3, .ref a6), (4, .ref a10), (5, .int x5), (6, .int x6), (7, .int x7), (8, .int x8), (9, .int x9), (10, .int x10), (11, .int x11), (12, .int x12), (13, .int x13)] → va_P D vwCl ([(a6, .inl (C 0, n6, .inl ta6)), (a10, .inl (C 0, n10, .inl ta10))] ++ wK C ad d) H → va_D A ([(a6, .inl (C 0, n6, .inl ta6)), (a10, .inl (C 0, n10, .inl ta10))] ++ wK C ad d) → va_S A s.heap H locs → k99 x8 x9 x10 x11 x12 x13 → W p l e (headSpec ws_L_asks rm_L_asks).room s m ([.ref (ad 0), .int p1] : List Value).toArray below meth c H locs 2 512 (MQ below (q_L_asks D C ad Q A) ([.ref (ad 0), .int p1] : List Value).toArray s 2 512 A) (F0 m 99 ls [])) (k237 : Int32 → Int32 → Int32 → Int32 → Int32 → Prop) (hk237 : ∀ (x8 : Int32) (x9 : Int32) (x10 : Int32) (x11 : Int32) (x12 : Int32) (H : Heap) (locs : List Loc) (ls : Array Slot), lv_has ls 15 [(0, .ref (ad 0)), (1, .int x1), (2, .int x2), (3, .ref a6), (4, .ref a10), (5, .int x5), (6, .int x6), (7, .int x7), (8, .int x8), (9, .int x9), (10, .int x10), (11, .int x11), (12, .int x12)] → va_P D vwCl ([(a6, .inl (C 0, n6, .inl ta6)), (a10, .inl (C 0, n10, .inl ta10))] ++ wK C ad d) H → va_D A ([(a6, .inl (C 0, n6, .inl ta6)), (a10, .inl (C 0, n10, .inl ta10))] ++ wK C ad d) → va_S A s.heap H locs → k237 x8 x9 x10 x11 x12 → W p l e (headSpec ws_L_asks rm_L_asks).room s m ([.ref (ad 0), .int p1] : List Value).toArray below meth c H locs 2 512 (MQ below (q_L_asks D C ad Q A) ([.ref (ad 0), .int p1] : List Value).toArray s 2 512 A) (F0 m 237 ls [])) (x8 : Int32) (x10 : Int32) (x11 : Int32) (x12 : Int32) (x13 : Int32) (x14 : Int32) (z162_0 : Int32) (H : Heap) (locs : List Loc) (ls : Array Slot), lv_has ls 15 [(0, .ref (ad 0)), (1, .int x1), (2, .int x2), (3, .ref a6), (4, .ref a10), (5, .int x5), (6, .int x6), (7, .int x7), (8, .int x8), (10, .int x10), (11, .int x11), (12, .int x12), (13, .int x13), (14, .int x14)] → va_P D vwCl ([(a6, .inl (C 0, n6, .inl ta6)), (a10, .inl (C 0, n10, .inl ta10))] ++ wK C ad d) H → va_D A ([(a6, .inl (C 0, n6, .inl ta6)), (a10, .inl (C 0, n10, .inl ta10))] ++ wK C ad d) → va_S A s.heap H locs → wp_L_asks_b162 n6 n10 x1 x2 x5 x6 x7 d ta6 ta10 k99 k237 Q x8 x10 x11 x12 x13 x14 z162_0 → W p l e (headSpec ws_L_asks rm_L_asks).room s m ([.ref (ad 0), .int p1] : List Value).toArray below meth c H locs 2 512 (MQ below (q_L_asks D C ad Q A) ([.ref (ad 0), .int p1] : List Value).toArray s 2 512 A) (F0 m 162 ls [.int z162_0]) := by
    intro a6 a10 n6 n10 x1 x2 x5 x6 x7 d ta6 ta10 k99 hk99 k237 hk237 x8 x10 x11 x12 x13 x14 z162_0 H locs ls hl hP hD hS hwp
    unfold wp_L_asks_b162 at hwp
    refine lv_istore (lv' := [(9, .int z162_0), (0, .ref (ad 0)), (1, .int x1), (2, .int x2), (3, .ref a6), (4, .ref a10), (5, .int x5), (6, .int x6), (7, .int x7), (8, .int x8), (10, .int x10), (11, .int x11), (12, .int x12), (13, .int x13), (14, .int x14)]) hx hb dL_asks_162 hl (by decide) rfl (fun ls hl => ?_)
    refine lv_iload hx hb dL_asks_164 (lv_at hl 10 rfl) ?_
    refine lv_iload hx hb dL_asks_166 (lv_at hl 14 rfl) ?_
    refine lv_if_eq (tgt := 175) hx hb dL_asks_168 (by decide) (fun c168 => ?_) (fun c168 => ?_)
    · have hwp := hwp.1 c168
      refine lv_iconst (v := 0) hx hb dL_asks_175 (by decide) ?_
      have hl9 := lv_sub (l' := [(0, .ref (ad 0)), (1, .int x1), (2, .int x2), (3, .ref a6), (4, .ref a10), (5, .int x5), (6, .int x6), (7, .int x7), (8, .int x8), (9, .int z162_0), (11, .int x11), (12, .int x12), (13, .int x13)]) hl [1, 2, 3, 4, 5, 6, 7, 8, 9, 0, 11, 12, 13] rfl
      have hP9 : va_P D vwCl ([(a6, .inl (C 0, n6, .inl ta6)), (a10, .inl (C 0, n10, .inl ta10))] ++ wK C ad d) H := bd_P (lc := [(a6, .inl (C 0, n6, .inl ta6)), (a10, .inl (C 0, n10, .inl ta10))]) hP [0, 1] rfl
      have hD9 : va_D A ([(a6, .inl (C 0, n6, .inl ta6)), (a10, .inl (C 0, n10, .inl ta10))] ++ wK C ad d) := bd_D (lc := [(a6, .inl (C 0, n6, .inl ta6)), (a10, .inl (C 0, n10, .inl ta10))]) hD [0, 1] rfl (by decide)
      exact HB176 a6 a10 n6 n10 x1 x2 x5 x6 x7 d ta6 ta10 _ hk99 _ hk237 x8 z162_0 x11 x12 x13 x10 (0 : Int32) H locs ls hl9 hP9 hD9 hS hwp
    · have hwp := hwp.2 c168
      refine lv_iconst (v := 1) hx hb dL_asks_171 (by decide) ?_
      refine lv_goto (tgt := 176) hx hb dL_asks_172 (by decide) ?_
      have hl9 := lv_sub (l' := [(0, .ref (ad 0)), (1, .int x1), (2, .int x2), (3, .ref a6), (4, .ref a10), (5, .int x5), (6, .int x6), (7, .int x7), (8, .int x8), (9, .int z162_0), (11, .int x11), (12, .int x12), (13, .int x13)]) hl [1, 2, 3, 4, 5, 6, 7, 8, 9, 0, 11, 12, 13] rfl
      have hP9 : va_P D vwCl ([(a6, .inl (C 0, n6, .inl ta6)), (a10, .inl (C 0, n10, .inl ta10))] ++ wK C ad d) H := bd_P (lc := [(a6, .inl (C 0, n6, .inl ta6)), (a10, .inl (C 0, n10, .inl ta10))]) hP [0, 1] rfl
      have hD9 : va_D A ([(a6, .inl (C 0, n6, .inl ta6)), (a10, .inl (C 0, n10, .inl ta10))] ++ wK C ad d) := bd_D (lc := [(a6, .inl (C 0, n6, .inl ta6)), (a10, .inl (C 0, n10, .inl ta10))]) hD [0, 1] rfl (by decide)
      exact HB176 a6 a10 n6 n10 x1 x2 x5 x6 x7 d ta6 ta10 _ hk99 _ hk237 x8 z162_0 x11 x12 x13 x10 (1 : Int32) H locs ls hl9 hP9 hD9 hS hwp
  have HB130 : ∀ (a6 : Nat) (a10 : Nat) (n6 : Nat) (n10 : Nat) (x1 : Int32) (x2 : Int32) (x5 : Int32) (x6 : Int32) (x7 : Int32) (d : DT) (ta6 : Nat → Int32) (ta10 : Nat → Int32) (k99 : Int32 → Int32 → Int32 → Int32 → Int32 → Int32 → Prop) (hk99 : ∀ (x8 : Int32) (x9 : Int32) (x10 : Int32) (x11 : Int32) (x12 : Int32) (x13 : Int32) (H : Heap) (locs : List Loc) (ls : Array Slot), lv_has ls 15 [(0, .ref (ad 0)), (1, .int x1), (2, .int x2), (3, .ref a6), (4, .ref a10), (5, .int x5), (6, .int x6), (7, .int x7), (8, .int x8), (9, .int x9), (10, .int x10), (11, .int x11), (12, .int x12), (13, .int x13)] → va_P D vwCl ([(a6, .inl (C 0, n6, .inl ta6)), (a10, .inl (C 0, n10, .inl ta10))] ++ wK C ad d) H → va_D A ([(a6, .inl (C 0, n6, .inl ta6)), (a10, .inl (C 0, n10, .inl ta10))] ++ wK C ad d) → va_S A s.heap H locs → k99 x8 x9 x10 x11 x12 x13 → W p l e (headSpec ws_L_asks rm_L_asks).room s m ([.ref (ad 0), .int p1] : List Value).toArray below meth c H locs 2 512 (MQ below (q_L_asks D C ad Q A) ([.ref (ad 0), .int p1] : List Value).toArray s 2 512 A) (F0 m 99 ls [])) (k237 : Int32 → Int32 → Int32 → Int32 → Int32 → Prop) (hk237 : ∀ (x8 : Int32) (x9 : Int32) (x10 : Int32) (x11 : Int32) (x12 : Int32) (H : Heap) (locs : List Loc) (ls : Array Slot), lv_has ls 15 [(0, .ref (ad 0)), (1, .int x1), (2, .int x2), (3, .ref a6), (4, .ref a10), (5, .int x5), (6, .int x6), (7, .int x7), (8, .int x8), (9, .int x9), (10, .int x10), (11, .int x11), (12, .int x12)] → va_P D vwCl ([(a6, .inl (C 0, n6, .inl ta6)), (a10, .inl (C 0, n10, .inl ta10))] ++ wK C ad d) H → va_D A ([(a6, .inl (C 0, n6, .inl ta6)), (a10, .inl (C 0, n10, .inl ta10))] ++ wK C ad d) → va_S A s.heap H locs → k237 x8 x9 x10 x11 x12 → W p l e (headSpec ws_L_asks rm_L_asks).room s m ([.ref (ad 0), .int p1] : List Value).toArray below meth c H locs 2 512 (MQ below (q_L_asks D C ad Q A) ([.ref (ad 0), .int p1] : List Value).toArray s 2 512 A) (F0 m 237 ls [])) (x9 : Int32) (x10 : Int32) (x11 : Int32) (x12 : Int32) (x13 : Int32) (z130_0 : Int32) (H : Heap) (locs : List Loc) (ls : Array Slot), lv_has ls 15 [(0, .ref (ad 0)), (1, .int x1), (2, .int x2), (3, .ref a6), (4, .ref a10), (5, .int x5), (6, .int x6), (7, .int x7), (9, .int x9), (10, .int x10), (11, .int x11), (12, .int x12), (13, .int x13)] → va_P D vwCl ([(a6, .inl (C 0, n6, .inl ta6)), (a10, .inl (C 0, n10, .inl ta10))] ++ wK C ad d) H → va_D A ([(a6, .inl (C 0, n6, .inl ta6)), (a10, .inl (C 0, n10, .inl ta10))] ++ wK C ad d) → va_S A s.heap H locs → wp_L_asks_b130 n6 n10 x1 x2 x5 x6 x7 d ta6 ta10 k99 k237 Q x9 x10 x11 x12 x13 z130_0 → W p l e (headSpec ws_L_asks rm_L_asks).room s m ([.ref (ad 0), .int p1] : List Value).toArray below meth c H locs 2 512 (MQ below (q_L_asks D C ad Q A) ([.ref (ad 0), .int p1] : List Value).toArray s 2 512 A) (F0 m 130 ls [.int z130_0]) := by
    intro a6 a10 n6 n10 x1 x2 x5 x6 x7 d ta6 ta10 k99 hk99 k237 hk237 x9 x10 x11 x12 x13 z130_0 H locs ls hl hP hD hS hwp
    unfold wp_L_asks_b130 at hwp
    refine lv_istore (lv' := [(8, .int z130_0), (0, .ref (ad 0)), (1, .int x1), (2, .int x2), (3, .ref a6), (4, .ref a10), (5, .int x5), (6, .int x6), (7, .int x7), (9, .int x9), (10, .int x10), (11, .int x11), (12, .int x12), (13, .int x13)]) hx hb dL_asks_130 hl (by decide) rfl (fun ls hl => ?_)
    refine lv_aload_n hx hb dL_asks_132 rfl (lv_at hl 4 rfl) ?_
    refine lv_iload hx hb dL_asks_133 (lv_at hl 13 rfl) ?_
    obtain ⟨hi135, hwp⟩ := hwp
    refine va_iald (D := D) hx hb hK hP 0 0 rfl rfl hi135 dL_asks_135 ?_
    refine lv_aload hx hb dL_asks_136 (lv_at hl 5 rfl) ?_
    refine lv_iload hx hb dL_asks_138 (lv_at hl 13 rfl) ?_
    obtain ⟨hi140, hwp⟩ := hwp
    refine va_iald (D := D) hx hb hK hP 1 0 rfl rfl hi140 dL_asks_140 ?_
    refine lv_iload hx hb dL_asks_141 (lv_at hl 7 rfl) ?_
    refine lv_iload hx hb dL_asks_143 (lv_at hl 8 rfl) ?_
    have hPc := hP.sub (ws' := []) [] rfl
    have hDc := hD.sub (ws' := []) [] (by decide) rfl
    have hFc := va_free (wc := []) hD hS hA [] rfl
    refine va_calli (va_runS (As := [.int (ta6 x13.toNatClampNeg), .int (ta10 x13.toNatClampNeg), .int x6, .int x7]) (rest := []) ⟨hx, hb, hml, hown, hts⟩ (met_L_beats l hst D C (ta6 x13.toNatClampNeg) (ta10 x13.toNatClampNeg) x6 x7 H.size _ hwp) (va_cwS 4 hts gc_L_130 rfl rfl rfl (by decide +kernel) ⟨Nat.le_of_ble_eq_true rfl, Nat.le_of_ble_eq_true rfl⟩) ⟨fun a U g mk q => by obtain ⟨q0, q1, qP, qK, qD, qT⟩ := q; exact ⟨q0, q1, qP, va_K.moved (u := U) (U := U.calling g mk a) (Vm.Alike.refl U.vm) qK, qD, qT.mv (U := U.calling g mk a) (State.WarmedH.refl U)⟩, fun U hU hW => ⟨rfl, by rw [hU], by rw [hU]; exact hPc, va_K.moved hW.alike hK, hDc.weaken (fun _ _ _ _ => trivial), hT.call hS hFc hU hW⟩⟩ rfl rfl hl.1 rfl (lv_room (Nat.le_of_ble_eq_true rfl)) dL_asks_145 ⟨Nat.le_of_ble_eq_true rfl, Nat.le_of_ble_eq_true rfl⟩) hS (fun q _ h => hFc q h) hFc (fun r145 u t H1 locs ht hvm hwp hB hz1 hk1 hS => ?_)
    obtain ⟨hP1, -, hD1⟩ := hB
    rw [ht] at hP1
    obtain ⟨hP, hD⟩ := bd_joinL (lr := [(a6, .inl (C 0, n6, .inl ta6)), (a10, .inl (C 0, n10, .inl ta10))]) (l1 := []) hP hD [] [0, 1] rfl rfl (by decide) (by decide) hk1 hFc hP1 hD1
    generalize H1 = H at hP hS ⊢
    have hP : va_P D vwCl ([(a6, .inl (C 0, n6, .inl ta6)), (a10, .inl (C 0, n10, .inl ta10))] ++ wK C ad d) H := hP
    have hD : va_D A ([(a6, .inl (C 0, n6, .inl ta6)), (a10, .inl (C 0, n10, .inl ta10))] ++ wK C ad d) := hD
    refine lv_istore (lv' := [(14, .int r145), (8, .int z130_0), (0, .ref (ad 0)), (1, .int x1), (2, .int x2), (3, .ref a6), (4, .ref a10), (5, .int x5), (6, .int x6), (7, .int x7), (9, .int x9), (10, .int x10), (11, .int x11), (12, .int x12), (13, .int x13)]) hx hb dL_asks_148 hl (by decide) rfl (fun ls hl => ?_)
    refine lv_iload hx hb dL_asks_150 (lv_at hl 0 rfl) ?_
    refine lv_if_eq (tgt := 160) hx hb dL_asks_152 (by decide) (fun c152 => ?_) (fun c152 => ?_)
    · have hwp := hwp.1 c152
      refine lv_iload hx hb dL_asks_160 (lv_at hl 10 rfl) ?_
      have hl9 := lv_sub (l' := [(0, .ref (ad 0)), (1, .int x1), (2, .int x2), (3, .ref a6), (4, .ref a10), (5, .int x5), (6, .int x6), (7, .int x7), (8, .int z130_0), (10, .int x10), (11, .int x11), (12, .int x12), (13, .int x13), (14, .int r145)]) hl [2, 3, 4, 5, 6, 7, 8, 9, 1, 11, 12, 13, 14, 0] rfl
      have hP9 : va_P D vwCl ([(a6, .inl (C 0, n6, .inl ta6)), (a10, .inl (C 0, n10, .inl ta10))] ++ wK C ad d) H := bd_P (lc := [(a6, .inl (C 0, n6, .inl ta6)), (a10, .inl (C 0, n10, .inl ta10))]) hP [0, 1] rfl
      have hD9 : va_D A ([(a6, .inl (C 0, n6, .inl ta6)), (a10, .inl (C 0, n10, .inl ta10))] ++ wK C ad d) := bd_D (lc := [(a6, .inl (C 0, n6, .inl ta6)), (a10, .inl (C 0, n10, .inl ta10))]) hD [0, 1] rfl (by decide)
      exact HB162 a6 a10 n6 n10 x1 x2 x5 x6 x7 d ta6 ta10 _ hk99 _ hk237 z130_0 x10 x11 x12 x13 r145 x9 H locs ls hl9 hP9 hD9 hS hwp
    · have hwp := hwp.2 c152
      refine lv_iload hx hb dL_asks_155 (lv_at hl 14 rfl) ?_
      refine lv_goto (tgt := 162) hx hb dL_asks_157 (by decide) ?_
      have hl9 := lv_sub (l' := [(0, .ref (ad 0)), (1, .int x1), (2, .int x2), (3, .ref a6), (4, .ref a10), (5, .int x5), (6, .int x6), (7, .int x7), (8, .int z130_0), (10, .int x10), (11, .int x11), (12, .int x12), (13, .int x13), (14, .int r145)]) hl [2, 3, 4, 5, 6, 7, 8, 9, 1, 11, 12, 13, 14, 0] rfl
      have hP9 : va_P D vwCl ([(a6, .inl (C 0, n6, .inl ta6)), (a10, .inl (C 0, n10, .inl ta10))] ++ wK C ad d) H := bd_P (lc := [(a6, .inl (C 0, n6, .inl ta6)), (a10, .inl (C 0, n10, .inl ta10))]) hP [0, 1] rfl
      have hD9 : va_D A ([(a6, .inl (C 0, n6, .inl ta6)), (a10, .inl (C 0, n10, .inl ta10))] ++ wK C ad d) := bd_D (lc := [(a6, .inl (C 0, n6, .inl ta6)), (a10, .inl (C 0, n10, .inl ta10))]) hD [0, 1] rfl (by decide)
      exact HB162 a6 a10 n6 n10 x1 x2 x5 x6 x7 d ta6 ta10 _ hk99 _ hk237 z130_0 x10 x11 x12 x13 r145 x13 H locs ls hl9 hP9 hD9 hS hwp
  have HB128 : ∀ (a6 : Nat) (a10 : Nat) (n6 : Nat) (n10 : Nat) (x1 : Int32) (x2 : Int32) (x5 : Int32) (x6 : Int32) (x7 : Int32) (d : DT) (ta6 : Nat → Int32) (ta10 : Nat → Int32) (k99 : Int32 → Int32 → Int32 → Int32 → Int32 → Int32 → Prop) (hk99 : ∀ (x8 : Int32) (x9 : Int32) (x10 : Int32) (x11 : Int32) (x12 : Int32) (x13 : Int32) (H : Heap) (locs : List Loc) (ls : Array Slot), lv_has ls 15 [(0, .ref (ad 0)), (1, .int x1), (2, .int x2), (3, .ref a6), (4, .ref a10), (5, .int x5), (6, .int x6), (7, .int x7), (8, .int x8), (9, .int x9), (10, .int x10), (11, .int x11), (12, .int x12), (13, .int x13)] → va_P D vwCl ([(a6, .inl (C 0, n6, .inl ta6)), (a10, .inl (C 0, n10, .inl ta10))] ++ wK C ad d) H → va_D A ([(a6, .inl (C 0, n6, .inl ta6)), (a10, .inl (C 0, n10, .inl ta10))] ++ wK C ad d) → va_S A s.heap H locs → k99 x8 x9 x10 x11 x12 x13 → W p l e (headSpec ws_L_asks rm_L_asks).room s m ([.ref (ad 0), .int p1] : List Value).toArray below meth c H locs 2 512 (MQ below (q_L_asks D C ad Q A) ([.ref (ad 0), .int p1] : List Value).toArray s 2 512 A) (F0 m 99 ls [])) (k237 : Int32 → Int32 → Int32 → Int32 → Int32 → Prop) (hk237 : ∀ (x8 : Int32) (x9 : Int32) (x10 : Int32) (x11 : Int32) (x12 : Int32) (H : Heap) (locs : List Loc) (ls : Array Slot), lv_has ls 15 [(0, .ref (ad 0)), (1, .int x1), (2, .int x2), (3, .ref a6), (4, .ref a10), (5, .int x5), (6, .int x6), (7, .int x7), (8, .int x8), (9, .int x9), (10, .int x10), (11, .int x11), (12, .int x12)] → va_P D vwCl ([(a6, .inl (C 0, n6, .inl ta6)), (a10, .inl (C 0, n10, .inl ta10))] ++ wK C ad d) H → va_D A ([(a6, .inl (C 0, n6, .inl ta6)), (a10, .inl (C 0, n10, .inl ta10))] ++ wK C ad d) → va_S A s.heap H locs → k237 x8 x9 x10 x11 x12 → W p l e (headSpec ws_L_asks rm_L_asks).room s m ([.ref (ad 0), .int p1] : List Value).toArray below meth c H locs 2 512 (MQ below (q_L_asks D C ad Q A) ([.ref (ad 0), .int p1] : List Value).toArray s 2 512 A) (F0 m 237 ls [])) (x8 : Int32) (x9 : Int32) (x10 : Int32) (x11 : Int32) (x12 : Int32) (x13 : Int32) (H : Heap) (locs : List Loc) (ls : Array Slot), lv_has ls 15 [(0, .ref (ad 0)), (1, .int x1), (2, .int x2), (3, .ref a6), (4, .ref a10), (5, .int x5), (6, .int x6), (7, .int x7), (8, .int x8), (9, .int x9), (10, .int x10), (11, .int x11), (12, .int x12), (13, .int x13)] → va_P D vwCl ([(a6, .inl (C 0, n6, .inl ta6)), (a10, .inl (C 0, n10, .inl ta10))] ++ wK C ad d) H → va_D A ([(a6, .inl (C 0, n6, .inl ta6)), (a10, .inl (C 0, n10, .inl ta10))] ++ wK C ad d) → va_S A s.heap H locs → wp_L_asks_b128 n6 n10 x1 x2 x5 x6 x7 d ta6 ta10 k99 k237 Q x8 x9 x10 x11 x12 x13 → W p l e (headSpec ws_L_asks rm_L_asks).room s m ([.ref (ad 0), .int p1] : List Value).toArray below meth c H locs 2 512 (MQ below (q_L_asks D C ad Q A) ([.ref (ad 0), .int p1] : List Value).toArray s 2 512 A) (F0 m 128 ls []) := by
    intro a6 a10 n6 n10 x1 x2 x5 x6 x7 d ta6 ta10 k99 hk99 k237 hk237 x8 x9 x10 x11 x12 x13 H locs ls hl hP hD hS hwp
    unfold wp_L_asks_b128 at hwp
    refine lv_iload hx hb dL_asks_128 (lv_at hl 8 rfl) ?_
    have hl9 := lv_sub (l' := [(0, .ref (ad 0)), (1, .int x1), (2, .int x2), (3, .ref a6), (4, .ref a10), (5, .int x5), (6, .int x6), (7, .int x7), (9, .int x9), (10, .int x10), (11, .int x11), (12, .int x12), (13, .int x13)]) hl [0, 1, 2, 3, 4, 5, 6, 7, 9, 10, 11, 12, 13] rfl
    have hP9 : va_P D vwCl ([(a6, .inl (C 0, n6, .inl ta6)), (a10, .inl (C 0, n10, .inl ta10))] ++ wK C ad d) H := bd_P (lc := [(a6, .inl (C 0, n6, .inl ta6)), (a10, .inl (C 0, n10, .inl ta10))]) hP [0, 1] rfl
    have hD9 : va_D A ([(a6, .inl (C 0, n6, .inl ta6)), (a10, .inl (C 0, n10, .inl ta10))] ++ wK C ad d) := bd_D (lc := [(a6, .inl (C 0, n6, .inl ta6)), (a10, .inl (C 0, n10, .inl ta10))]) hD [0, 1] rfl (by decide)
    exact HB130 a6 a10 n6 n10 x1 x2 x5 x6 x7 d ta6 ta10 _ hk99 _ hk237 x9 x10 x11 x12 x13 x8 H locs ls hl9 hP9 hD9 hS hwp
  have HL99 : ∀ (a6 : Nat) (a10 : Nat) (n6 : Nat) (n10 : Nat) (x1 : Int32) (x2 : Int32) (x5 : Int32) (x6 : Int32) (x7 : Int32) (d : DT) (ta6 : Nat → Int32) (ta10 : Nat → Int32) (k237 : Int32 → Int32 → Int32 → Int32 → Int32 → Prop) (hk237 : ∀ (x8 : Int32) (x9 : Int32) (x10 : Int32) (x11 : Int32) (x12 : Int32) (H : Heap) (locs : List Loc) (ls : Array Slot), lv_has ls 15 [(0, .ref (ad 0)), (1, .int x1), (2, .int x2), (3, .ref a6), (4, .ref a10), (5, .int x5), (6, .int x6), (7, .int x7), (8, .int x8), (9, .int x9), (10, .int x10), (11, .int x11), (12, .int x12)] → va_P D vwCl ([(a6, .inl (C 0, n6, .inl ta6)), (a10, .inl (C 0, n10, .inl ta10))] ++ wK C ad d) H → va_D A ([(a6, .inl (C 0, n6, .inl ta6)), (a10, .inl (C 0, n10, .inl ta10))] ++ wK C ad d) → va_S A s.heap H locs → k237 x8 x9 x10 x11 x12 → W p l e (headSpec ws_L_asks rm_L_asks).room s m ([.ref (ad 0), .int p1] : List Value).toArray below meth c H locs 2 512 (MQ below (q_L_asks D C ad Q A) ([.ref (ad 0), .int p1] : List Value).toArray s 2 512 A) (F0 m 237 ls [])) (n99 : Nat) (x8 : Int32) (x9 : Int32) (x10 : Int32) (x11 : Int32) (x12 : Int32) (x13 : Int32) (H : Heap) (locs : List Loc) (ls : Array Slot), lv_has ls 15 [(0, .ref (ad 0)), (1, .int x1), (2, .int x2), (3, .ref a6), (4, .ref a10), (5, .int x5), (6, .int x6), (7, .int x7), (8, .int x8), (9, .int x9), (10, .int x10), (11, .int x11), (12, .int x12), (13, .int x13)] → va_P D vwCl ([(a6, .inl (C 0, n6, .inl ta6)), (a10, .inl (C 0, n10, .inl ta10))] ++ wK C ad d) H → va_D A ([(a6, .inl (C 0, n6, .inl ta6)), (a10, .inl (C 0, n10, .inl ta10))] ++ wK C ad d) → va_S A s.heap H locs → wp_L_asks_L99 n6 n10 x1 x2 x5 x6 x7 d ta6 ta10 k237 Q n99 x8 x9 x10 x11 x12 x13 → W p l e (headSpec ws_L_asks rm_L_asks).room s m ([.ref (ad 0), .int p1] : List Value).toArray below meth c H locs 2 512 (MQ below (q_L_asks D C ad Q A) ([.ref (ad 0), .int p1] : List Value).toArray s 2 512 A) (F0 m 99 ls []) := by
    intro a6 a10 n6 n10 x1 x2 x5 x6 x7 d ta6 ta10 k237 hk237 n99
    induction n99 with
    | zero =>
      intro x8 x9 x10 x11 x12 x13 H locs ls hl hP hD hS hwp
      exact False.elim hwp
    | succ n99 ih =>
      intro x8 x9 x10 x11 x12 x13 H locs ls hl hP hD hS hwp
      unfold wp_L_asks_L99 at hwp
      refine lv_iload hx hb dL_asks_99 (lv_at hl 13 rfl) ?_
      refine lv_if_lt (tgt := 237) hx hb dL_asks_101 (by decide) (fun c101 => ?_) (fun c101 => ?_)
      · have hwp := hwp.1 c101
        have hl9 := lv_sub (l' := [(0, .ref (ad 0)), (1, .int x1), (2, .int x2), (3, .ref a6), (4, .ref a10), (5, .int x5), (6, .int x6), (7, .int x7), (8, .int x8), (9, .int x9), (10, .int x10), (11, .int x11), (12, .int x12)]) hl [0, 1, 2, 3, 4, 5, 6, 7, 8, 9, 10, 11, 12] rfl
        have hP9 : va_P D vwCl ([(a6, .inl (C 0, n6, .inl ta6)), (a10, .inl (C 0, n10, .inl ta10))] ++ wK C ad d) H := bd_P (lc := [(a6, .inl (C 0, n6, .inl ta6)), (a10, .inl (C 0, n10, .inl ta10))]) hP [0, 1] rfl
        have hD9 : va_D A ([(a6, .inl (C 0, n6, .inl ta6)), (a10, .inl (C 0, n10, .inl ta10))] ++ wK C ad d) := bd_D (lc := [(a6, .inl (C 0, n6, .inl ta6)), (a10, .inl (C 0, n10, .inl ta10))]) hD [0, 1] rfl (by decide)
        exact hk237 x8 x9 x10 x11 x12 H locs ls hl9 hP9 hD9 hS hwp
      · have hwp := hwp.2 c101
        refine lv_aload_n hx hb dL_asks_104 rfl (lv_at hl 3 rfl) ?_
        refine lv_iload hx hb dL_asks_105 (lv_at hl 13 rfl) ?_
        obtain ⟨hi107, hwp⟩ := hwp
        refine va_iald (D := D) hx hb hK hP 0 0 rfl rfl hi107 dL_asks_107 ?_
        refine lv_iload hx hb dL_asks_108 (lv_at hl 6 rfl) ?_
        refine lv_icmp_ne (tgt := 128) hx hb dL_asks_110 (by decide) (fun c110 => ?_) (fun c110 => ?_)
        · have hwp := hwp.1 c110
          have hl9 := lv_sub (l' := [(0, .ref (ad 0)), (1, .int x1), (2, .int x2), (3, .ref a6), (4, .ref a10), (5, .int x5), (6, .int x6), (7, .int x7), (8, .int x8), (9, .int x9), (10, .int x10), (11, .int x11), (12, .int x12), (13, .int x13)]) hl [0, 1, 2, 3, 4, 5, 6, 7, 8, 9, 10, 11, 12, 13] rfl
          have hP9 : va_P D vwCl ([(a6, .inl (C 0, n6, .inl ta6)), (a10, .inl (C 0, n10, .inl ta10))] ++ wK C ad d) H := bd_P (lc := [(a6, .inl (C 0, n6, .inl ta6)), (a10, .inl (C 0, n10, .inl ta10))]) hP [0, 1] rfl
          have hD9 : va_D A ([(a6, .inl (C 0, n6, .inl ta6)), (a10, .inl (C 0, n10, .inl ta10))] ++ wK C ad d) := bd_D (lc := [(a6, .inl (C 0, n6, .inl ta6)), (a10, .inl (C 0, n10, .inl ta10))]) hD [0, 1] rfl (by decide)
          exact HB128 a6 a10 n6 n10 x1 x2 x5 x6 x7 d ta6 ta10 _ (fun z0 z1 z2 z3 z4 z5 H locs ls hl hP hD hS hwp => ih z0 z1 z2 z3 z4 z5 H locs ls hl hP hD hS hwp) _ hk237 x8 x9 x10 x11 x12 x13 H locs ls hl9 hP9 hD9 hS hwp
        · have hwp := hwp.2 c110
          refine lv_aload hx hb dL_asks_113 (lv_at hl 4 rfl) ?_
          refine lv_iload hx hb dL_asks_115 (lv_at hl 13 rfl) ?_
          obtain ⟨hi117, hwp⟩ := hwp
          refine va_iald (D := D) hx hb hK hP 1 0 rfl rfl hi117 dL_asks_117 ?_
          refine lv_iload hx hb dL_asks_118 (lv_at hl 7 rfl) ?_
          refine lv_icmp_ne (tgt := 128) hx hb dL_asks_120 (by decide) (fun c120 => ?_) (fun c120 => ?_)
          · have hwp := hwp.1 c120
            have hl9 := lv_sub (l' := [(0, .ref (ad 0)), (1, .int x1), (2, .int x2), (3, .ref a6), (4, .ref a10), (5, .int x5), (6, .int x6), (7, .int x7), (8, .int x8), (9, .int x9), (10, .int x10), (11, .int x11), (12, .int x12), (13, .int x13)]) hl [0, 1, 2, 3, 4, 5, 6, 7, 8, 9, 10, 11, 12, 13] rfl
            have hP9 : va_P D vwCl ([(a6, .inl (C 0, n6, .inl ta6)), (a10, .inl (C 0, n10, .inl ta10))] ++ wK C ad d) H := bd_P (lc := [(a6, .inl (C 0, n6, .inl ta6)), (a10, .inl (C 0, n10, .inl ta10))]) hP [0, 1] rfl
            have hD9 : va_D A ([(a6, .inl (C 0, n6, .inl ta6)), (a10, .inl (C 0, n10, .inl ta10))] ++ wK C ad d) := bd_D (lc := [(a6, .inl (C 0, n6, .inl ta6)), (a10, .inl (C 0, n10, .inl ta10))]) hD [0, 1] rfl (by decide)
            exact HB128 a6 a10 n6 n10 x1 x2 x5 x6 x7 d ta6 ta10 _ (fun z0 z1 z2 z3 z4 z5 H locs ls hl hP hD hS hwp => ih z0 z1 z2 z3 z4 z5 H locs ls hl hP hD hS hwp) _ hk237 x8 x9 x10 x11 x12 x13 H locs ls hl9 hP9 hD9 hS hwp
          · have hwp := hwp.2 c120
            refine lv_iload hx hb dL_asks_123 (lv_at hl 13 rfl) ?_
            refine lv_goto (tgt := 130) hx hb dL_asks_125 (by decide) ?_
            have hl9 := lv_sub (l' := [(0, .ref (ad 0)), (1, .int x1), (2, .int x2), (3, .ref a6), (4, .ref a10), (5, .int x5), (6, .int x6), (7, .int x7), (9, .int x9), (10, .int x10), (11, .int x11), (12, .int x12), (13, .int x13)]) hl [0, 1, 2, 3, 4, 5, 6, 7, 9, 10, 11, 12, 13] rfl
            have hP9 : va_P D vwCl ([(a6, .inl (C 0, n6, .inl ta6)), (a10, .inl (C 0, n10, .inl ta10))] ++ wK C ad d) H := bd_P (lc := [(a6, .inl (C 0, n6, .inl ta6)), (a10, .inl (C 0, n10, .inl ta10))]) hP [0, 1] rfl
            have hD9 : va_D A ([(a6, .inl (C 0, n6, .inl ta6)), (a10, .inl (C 0, n10, .inl ta10))] ++ wK C ad d) := bd_D (lc := [(a6, .inl (C 0, n6, .inl ta6)), (a10, .inl (C 0, n10, .inl ta10))]) hD [0, 1] rfl (by decide)
            exact HB130 a6 a10 n6 n10 x1 x2 x5 x6 x7 d ta6 ta10 _ (fun z0 z1 z2 z3 z4 z5 H locs ls hl hP hD hS hwp => ih z0 z1 z2 z3 z4 z5 H locs ls hl hP hD hS hwp) _ hk237 x9 x10 x11 x12 x13 x13 H locs ls hl9 hP9 hD9 hS hwp
  have HL55 : ∀ (a6 : Nat) (a10 : Nat) (n6 : Nat) (n10 : Nat) (x1 : Int32) (x2 : Int32) (ta6 : Nat → Int32) (ta10 : Nat → Int32) (n55 : Nat) (x5 : Int32) (d : DT) (H : Heap) (locs : List Loc) (ls : Array Slot), lv_has ls 15 [(0, .ref (ad 0)), (1, .int x1), (2, .int x2), (3, .ref a6), (4, .ref a10), (5, .int x5)] → va_P D vwCl ([(a6, .inl (C 0, n6, .inl ta6)), (a10, .inl (C 0, n10, .inl ta10))] ++ wK C ad d) H → va_D A ([(a6, .inl (C 0, n6, .inl ta6)), (a10, .inl (C 0, n10, .inl ta10))] ++ wK C ad d) → va_S A s.heap H locs → wp_L_asks_L55 n6 n10 x1 x2 ta6 ta10 Q n55 x5 d → W p l e (headSpec ws_L_asks rm_L_asks).room s m ([.ref (ad 0), .int p1] : List Value).toArray below meth c H locs 2 512 (MQ below (q_L_asks D C ad Q A) ([.ref (ad 0), .int p1] : List Value).toArray s 2 512 A) (F0 m 55 ls []) := by
    intro a6 a10 n6 n10 x1 x2 ta6 ta10 n55
    induction n55 with
    | zero =>
      intro x5 d H locs ls hl hP hD hS hwp
      exact False.elim hwp
    | succ n55 ih =>
      intro x5 d H locs ls hl hP hD hS hwp
      unfold wp_L_asks_L55 at hwp
      refine lv_iload hx hb dL_asks_55 (lv_at hl 5 rfl) ?_
      refine lv_iload_n hx hb dL_asks_57 rfl (lv_at hl 1 rfl) ?_
      refine lv_icmp_ge (tgt := 311) hx hb dL_asks_58 (by decide) (fun c58 => ?_) (fun c58 => ?_)
      · have hwp := hwp.1 c58
        refine lv_iconst (v := 1) hx hb dL_asks_311 (by decide) ?_
        have hP9 : va_P D vwCl ([] ++ wK C ad d) H := bd_P (lc := []) hP [] rfl
        have hD9 : va_D A ([] ++ wK C ad d) := bd_D (lc := []) hD [] rfl (by decide)
        exact W.zret (v := (1 : Int32)) (ty := .boolean) hx hb hr rfl (fun t ht hW => ⟨⟨(1 : Int32), (d), rfl, hwp, by rw [ht]; exact hP9, va_K.moved hW.alike hK, hD9⟩, hS.F ht⟩) hS.2.2 dL_asks_312
      · have hwp := hwp.2 c58
        refine lv_aload_n hx hb dL_asks_61 rfl (lv_at hl 0 rfl) ?_
        refine lv_iload hx hb dL_asks_62 (lv_at hl 5 rfl) ?_
        refine lv_iconst (v := 1) hx hb dL_asks_64 (by decide) ?_
        have hPc : va_P D vwCl ([] ++ wK C ad d) H := bd_P (lc := []) hP [] rfl
        have hDc : va_D A ([] ++ wK C ad d) := bd_D (lc := []) hD [] rfl (by decide)
        have hFc : ∀ q, va_A ([] ++ wK C ad d) H.size q → A q := bd_free (lc := []) hD hS hA [] rfl
        refine va_calli (va_runS (As := [.ref (ad 0), .int x5, .int (1 : Int32)]) (rest := []) ⟨hx, hb, hml, hown, hts⟩ (met_L_sum l hst D C ad x5 (1 : Int32) d H.size _ hwp) (va_cwS 3 hts gc_L_101 rfl rfl rfl (by decide +kernel) ⟨Nat.le_of_ble_eq_true rfl, Nat.le_of_ble_eq_true rfl⟩) ⟨fun a U g mk q => by obtain ⟨q0, q1, qP, qK, qD, qT⟩ := q; exact ⟨q0, q1, qP, va_K.moved (u := U) (U := U.calling g mk a) (Vm.Alike.refl U.vm) qK, qD, qT.mv (U := U.calling g mk a) (State.WarmedH.refl U)⟩, fun U hU hW => ⟨rfl, by rw [hU], by rw [hU]; exact hPc, va_K.moved hW.alike hK, hDc.weaken (fun _ _ _ _ => trivial), hT.call hS hFc hU hW⟩⟩ rfl rfl hl.1 rfl (lv_room (Nat.le_of_ble_eq_true rfl)) dL_asks_65 ⟨Nat.le_of_ble_eq_true rfl, Nat.le_of_ble_eq_true rfl⟩) hS (fun q _ h => hFc q h) hFc (fun r65 u t H1 locs ht hvm hwp hB hz1 hk1 hS => ?_)
        obtain ⟨u65_4, rfl⟩ : ∃ z, z = u := ⟨_, rfl⟩
        obtain ⟨hP1, -, hD1⟩ := hB
        rw [ht] at hP1
        obtain ⟨hP, hD⟩ := bd_join (lr := [(a6, .inl (C 0, n6, .inl ta6)), (a10, .inl (C 0, n10, .inl ta10))]) (l1 := []) (b1 := wK C ad u65_4) hP hD [] [0, 1] rfl rfl (by decide) (by decide) hk1 hFc hP1 hD1
        generalize H1 = H at hP hS ⊢
        have hP : va_P D vwCl ([(a6, .inl (C 0, n6, .inl ta6)), (a10, .inl (C 0, n10, .inl ta10))] ++ wK C ad u65_4) H := hP
        have hD : va_D A ([(a6, .inl (C 0, n6, .inl ta6)), (a10, .inl (C 0, n10, .inl ta10))] ++ wK C ad u65_4) := hD
        refine lv_istore (lv' := [(6, .int r65), (0, .ref (ad 0)), (1, .int x1), (2, .int x2), (3, .ref a6), (4, .ref a10), (5, .int x5)]) hx hb dL_asks_68 hl (by decide) rfl (fun ls hl => ?_)
        refine lv_aload_n hx hb dL_asks_70 rfl (lv_at hl 1 rfl) ?_
        refine lv_iload hx hb dL_asks_71 (lv_at hl 6 rfl) ?_
        refine lv_iconst (v := 2) hx hb dL_asks_73 (by decide) ?_
        have hPc : va_P D vwCl ([] ++ wK C ad u65_4) H := bd_P (lc := []) hP [] rfl
        have hDc : va_D A ([] ++ wK C ad u65_4) := bd_D (lc := []) hD [] rfl (by decide)
        have hFc : ∀ q, va_A ([] ++ wK C ad u65_4) H.size q → A q := bd_free (lc := []) hD hS hA [] rfl
        refine va_calli (va_runS (As := [.ref (ad 0), .int x5, .int (2 : Int32)]) (rest := []) ⟨hx, hb, hml, hown, hts⟩ (met_L_sum l hst D C ad x5 (2 : Int32) u65_4 H.size _ hwp) (va_cwS 3 hts gc_L_101 rfl rfl rfl (by decide +kernel) ⟨Nat.le_of_ble_eq_true rfl, Nat.le_of_ble_eq_true rfl⟩) ⟨fun a U g mk q => by obtain ⟨q0, q1, qP, qK, qD, qT⟩ := q; exact ⟨q0, q1, qP, va_K.moved (u := U) (U := U.calling g mk a) (Vm.Alike.refl U.vm) qK, qD, qT.mv (U := U.calling g mk a) (State.WarmedH.refl U)⟩, fun U hU hW => ⟨rfl, by rw [hU], by rw [hU]; exact hPc, va_K.moved hW.alike hK, hDc.weaken (fun _ _ _ _ => trivial), hT.call hS hFc hU hW⟩⟩ rfl rfl hl.1 rfl (lv_room (Nat.le_of_ble_eq_true rfl)) dL_asks_74 ⟨Nat.le_of_ble_eq_true rfl, Nat.le_of_ble_eq_true rfl⟩) hS (fun q _ h => hFc q h) hFc (fun r74 u t H1 locs ht hvm hwp hB hz1 hk1 hS => ?_)
        obtain ⟨u74_5, rfl⟩ : ∃ z, z = u := ⟨_, rfl⟩
        obtain ⟨hP1, -, hD1⟩ := hB
        rw [ht] at hP1
        obtain ⟨hP, hD⟩ := bd_join (lr := [(a6, .inl (C 0, n6, .inl ta6)), (a10, .inl (C 0, n10, .inl ta10))]) (l1 := []) (b1 := wK C ad u74_5) hP hD [] [0, 1] rfl rfl (by decide) (by decide) hk1 hFc hP1 hD1
        generalize H1 = H at hP hS ⊢
        have hP : va_P D vwCl ([(a6, .inl (C 0, n6, .inl ta6)), (a10, .inl (C 0, n10, .inl ta10))] ++ wK C ad u74_5) H := hP
        have hD : va_D A ([(a6, .inl (C 0, n6, .inl ta6)), (a10, .inl (C 0, n10, .inl ta10))] ++ wK C ad u74_5) := hD
        refine lv_istore (lv' := [(7, .int r74), (6, .int r65), (0, .ref (ad 0)), (1, .int x1), (2, .int x2), (3, .ref a6), (4, .ref a10), (5, .int x5)]) hx hb dL_asks_77 hl (by decide) rfl (fun ls hl => ?_)
        refine lv_iconst (v := (-1)) hx hb dL_asks_79 (by decide) ?_
        refine lv_istore (lv' := [(8, .int (-1 : Int32)), (7, .int r74), (6, .int r65), (0, .ref (ad 0)), (1, .int x1), (2, .int x2), (3, .ref a6), (4, .ref a10), (5, .int x5)]) hx hb dL_asks_80 hl (by decide) rfl (fun ls hl => ?_)
        refine lv_iconst (v := (-1)) hx hb dL_asks_82 (by decide) ?_
        refine lv_istore (lv' := [(9, .int (-1 : Int32)), (8, .int (-1 : Int32)), (7, .int r74), (6, .int r65), (0, .ref (ad 0)), (1, .int x1), (2, .int x2), (3, .ref a6), (4, .ref a10), (5, .int x5)]) hx hb dL_asks_83 hl (by decide) rfl (fun ls hl => ?_)
        refine lv_iconst (v := 0) hx hb dL_asks_85 (by decide) ?_
        refine lv_istore (lv' := [(10, .int (0 : Int32)), (9, .int (-1 : Int32)), (8, .int (-1 : Int32)), (7, .int r74), (6, .int r65), (0, .ref (ad 0)), (1, .int x1), (2, .int x2), (3, .ref a6), (4, .ref a10), (5, .int x5)]) hx hb dL_asks_86 hl (by decide) rfl (fun ls hl => ?_)
        refine lv_iconst (v := (-1)) hx hb dL_asks_88 (by decide) ?_
        refine lv_istore (lv' := [(11, .int (-1 : Int32)), (10, .int (0 : Int32)), (9, .int (-1 : Int32)), (8, .int (-1 : Int32)), (7, .int r74), (6, .int r65), (0, .ref (ad 0)), (1, .int x1), (2, .int x2), (3, .ref a6), (4, .ref a10), (5, .int x5)]) hx hb dL_asks_89 hl (by decide) rfl (fun ls hl => ?_)
        refine lv_iconst (v := (-1)) hx hb dL_asks_91 (by decide) ?_
        refine lv_istore (lv' := [(12, .int (-1 : Int32)), (11, .int (-1 : Int32)), (10, .int (0 : Int32)), (9, .int (-1 : Int32)), (8, .int (-1 : Int32)), (7, .int r74), (6, .int r65), (0, .ref (ad 0)), (1, .int x1), (2, .int x2), (3, .ref a6), (4, .ref a10), (5, .int x5)]) hx hb dL_asks_92 hl (by decide) rfl (fun ls hl => ?_)
        refine lv_iload_n hx hb dL_asks_94 rfl (lv_at hl 9 rfl) ?_
        refine lv_iconst (v := 1) hx hb dL_asks_95 (by decide) ?_
        refine lv_isub hx hb dL_asks_96 ?_
        refine lv_topi (fun v97 ev97 => ?_)
        have hwp := hwp v97 ev97
        refine lv_istore (lv' := [(13, .int v97), (12, .int (-1 : Int32)), (11, .int (-1 : Int32)), (10, .int (0 : Int32)), (9, .int (-1 : Int32)), (8, .int (-1 : Int32)), (7, .int r74), (6, .int r65), (0, .ref (ad 0)), (1, .int x1), (2, .int x2), (3, .ref a6), (4, .ref a10), (5, .int x5)]) hx hb dL_asks_97 hl (by decide) rfl (fun ls hl => ?_)
        have hl9 := lv_sub (l' := [(0, .ref (ad 0)), (1, .int x1), (2, .int x2), (3, .ref a6), (4, .ref a10), (5, .int x5), (6, .int r65), (7, .int r74), (8, .int (-1 : Int32)), (9, .int (-1 : Int32)), (10, .int (0 : Int32)), (11, .int (-1 : Int32)), (12, .int (-1 : Int32)), (13, .int v97)]) hl [8, 9, 10, 11, 12, 13, 7, 6, 5, 4, 3, 2, 1, 0] rfl
        have hP9 : va_P D vwCl ([(a6, .inl (C 0, n6, .inl ta6)), (a10, .inl (C 0, n10, .inl ta10))] ++ wK C ad u74_5) H := bd_P (lc := [(a6, .inl (C 0, n6, .inl ta6)), (a10, .inl (C 0, n10, .inl ta10))]) hP [0, 1] rfl
        have hD9 : va_D A ([(a6, .inl (C 0, n6, .inl ta6)), (a10, .inl (C 0, n10, .inl ta10))] ++ wK C ad u74_5) := bd_D (lc := [(a6, .inl (C 0, n6, .inl ta6)), (a10, .inl (C 0, n10, .inl ta10))]) hD [0, 1] rfl (by decide)
        obtain ⟨nn9, hwp⟩ := hwp
        refine HL99 a6 a10 n6 n10 x1 x2 x5 r65 r74 u74_5 ta6 ta10 _ (fun x8 x9 x10 x11 x12 H locs ls hl hP hD hS hwp => ?_) nn9 (-1 : Int32) (-1 : Int32) (0 : Int32) (-1 : Int32) (-1 : Int32) v97 H locs ls hl9 hP9 hD9 hS hwp
        refine lv_aload_n hx hb dL_asks_237 rfl (lv_at hl 0 rfl) ?_
        refine lv_iload hx hb dL_asks_238 (lv_at hl 5 rfl) ?_
        have hPc : va_P D vwCl ([] ++ wK C ad u74_5) H := bd_P (lc := []) hP [] rfl
        have hDc : va_D A ([] ++ wK C ad u74_5) := bd_D (lc := []) hD [] rfl (by decide)
        have hFc : ∀ q, va_A ([] ++ wK C ad u74_5) H.size q → A q := bd_free (lc := []) hD hS hA [] rfl
        refine va_calli (va_runV (As := [.int x5]) (rest := []) ⟨hx, hb, hml, hown, hts⟩ (mk_X10_pointOf l hst D C ad x5 u74_5 H.size _ hwp) (cwV 1 hts gc_L_166 rfl rfl rfl (by decide +kernel) ⟨Nat.le_of_ble_eq_true rfl, Nat.le_of_ble_eq_true rfl⟩) ⟨fun a U g mk q => by obtain ⟨q0, q1, qP, qK, qD, qT⟩ := q; exact ⟨q0, q1, qP, va_K.moved (u := U) (U := U.calling g mk a) (Vm.Alike.refl U.vm) qK, qD, qT.mv (U := U.calling g mk a) (State.WarmedH.refl U)⟩, va_recv hK hPc (ci := 10) (q0 := 0) rfl rfl, fun U hU hW => ⟨rfl, by rw [hU], by rw [hU]; exact hPc, va_K.moved hW.alike hK, hDc.weaken (fun _ _ _ _ => trivial), hT.call hS hFc hU hW⟩⟩ rfl rfl hl.1 rfl (lv_room (Nat.le_of_ble_eq_true rfl)) dL_asks_240 ⟨Nat.le_of_ble_eq_true rfl, Nat.le_of_ble_eq_true rfl⟩) hS (fun q _ h => hFc q h) hFc (fun r240 u t H1 locs ht hvm hwp hB hz1 hk1 hS => ?_)
        obtain ⟨u240_6, rfl⟩ : ∃ z, z = u := ⟨_, rfl⟩
        obtain ⟨hP1, -, hD1⟩ := hB
        rw [ht] at hP1
        obtain ⟨hP, hD⟩ := bd_join (lr := [(a6, .inl (C 0, n6, .inl ta6)), (a10, .inl (C 0, n10, .inl ta10))]) (l1 := []) (b1 := wK C ad u240_6) hP hD [] [0, 1] rfl rfl (by decide) (by decide) hk1 hFc hP1 hD1
        generalize H1 = H at hP hS ⊢
        have hP : va_P D vwCl ([(a6, .inl (C 0, n6, .inl ta6)), (a10, .inl (C 0, n10, .inl ta10))] ++ wK C ad u240_6) H := hP
        have hD : va_D A ([(a6, .inl (C 0, n6, .inl ta6)), (a10, .inl (C 0, n10, .inl ta10))] ++ wK C ad u240_6) := hD
        refine lv_iload hx hb dL_asks_243 (lv_at hl 8 rfl) ?_
        refine lv_icmp_ne (tgt := 294) hx hb dL_asks_245 (by decide) (fun c245 => ?_) (fun c245 => ?_)
        · have hwp := hwp.1 c245
          refine lv_iconst (v := 0) hx hb dL_asks_294 (by decide) ?_
          have hP9 : va_P D vwCl ([] ++ wK C ad u240_6) H := bd_P (lc := []) hP [] rfl
          have hD9 : va_D A ([] ++ wK C ad u240_6) := bd_D (lc := []) hD [] rfl (by decide)
          exact W.zret (v := (0 : Int32)) (ty := .boolean) hx hb hr rfl (fun t ht hW => ⟨⟨(0 : Int32), (u240_6), rfl, hwp, by rw [ht]; exact hP9, va_K.moved hW.alike hK, hD9⟩, hS.F ht⟩) hS.2.2 dL_asks_295
        · have hwp := hwp.2 c245
          refine lv_aload_n hx hb dL_asks_248 rfl (lv_at hl 0 rfl) ?_
          refine lv_iload hx hb dL_asks_249 (lv_at hl 5 rfl) ?_
          have hPc : va_P D vwCl ([] ++ wK C ad u240_6) H := bd_P (lc := []) hP [] rfl
          have hDc : va_D A ([] ++ wK C ad u240_6) := bd_D (lc := []) hD [] rfl (by decide)
          have hFc : ∀ q, va_A ([] ++ wK C ad u240_6) H.size q → A q := bd_free (lc := []) hD hS hA [] rfl
          refine va_calli (va_runV (As := [.int x5]) (rest := []) ⟨hx, hb, hml, hown, hts⟩ (mk_X10_beatenBy l hst D C ad x5 u240_6 H.size _ hwp) (cwV 1 hts gc_L_169 rfl rfl rfl (by decide +kernel) ⟨Nat.le_of_ble_eq_true rfl, Nat.le_of_ble_eq_true rfl⟩) ⟨fun a U g mk q => by obtain ⟨q0, q1, qP, qK, qD, qT⟩ := q; exact ⟨q0, q1, qP, va_K.moved (u := U) (U := U.calling g mk a) (Vm.Alike.refl U.vm) qK, qD, qT.mv (U := U.calling g mk a) (State.WarmedH.refl U)⟩, va_recv hK hPc (ci := 10) (q0 := 0) rfl rfl, fun U hU hW => ⟨rfl, by rw [hU], by rw [hU]; exact hPc, va_K.moved hW.alike hK, hDc.weaken (fun _ _ _ _ => trivial), hT.call hS hFc hU hW⟩⟩ rfl rfl hl.1 rfl (lv_room (Nat.le_of_ble_eq_true rfl)) dL_asks_251 ⟨Nat.le_of_ble_eq_true rfl, Nat.le_of_ble_eq_true rfl⟩) hS (fun q _ h => hFc q h) hFc (fun r251 u t H1 locs ht hvm hwp hB hz1 hk1 hS => ?_)
          obtain ⟨u251_7, rfl⟩ : ∃ z, z = u := ⟨_, rfl⟩
          obtain ⟨hP1, -, hD1⟩ := hB
          rw [ht] at hP1
          obtain ⟨hP, hD⟩ := bd_join (lr := [(a6, .inl (C 0, n6, .inl ta6)), (a10, .inl (C 0, n10, .inl ta10))]) (l1 := []) (b1 := wK C ad u251_7) hP hD [] [0, 1] rfl rfl (by decide) (by decide) hk1 hFc hP1 hD1
          generalize H1 = H at hP hS ⊢
          have hP : va_P D vwCl ([(a6, .inl (C 0, n6, .inl ta6)), (a10, .inl (C 0, n10, .inl ta10))] ++ wK C ad u251_7) H := hP
          have hD : va_D A ([(a6, .inl (C 0, n6, .inl ta6)), (a10, .inl (C 0, n10, .inl ta10))] ++ wK C ad u251_7) := hD
          refine lv_iload hx hb dL_asks_254 (lv_at hl 9 rfl) ?_
          refine lv_icmp_ne (tgt := 294) hx hb dL_asks_256 (by decide) (fun c256 => ?_) (fun c256 => ?_)
          · have hwp := hwp.1 c256
            refine lv_iconst (v := 0) hx hb dL_asks_294 (by decide) ?_
            have hP9 : va_P D vwCl ([] ++ wK C ad u251_7) H := bd_P (lc := []) hP [] rfl
            have hD9 : va_D A ([] ++ wK C ad u251_7) := bd_D (lc := []) hD [] rfl (by decide)
            exact W.zret (v := (0 : Int32)) (ty := .boolean) hx hb hr rfl (fun t ht hW => ⟨⟨(0 : Int32), (u251_7), rfl, hwp, by rw [ht]; exact hP9, va_K.moved hW.alike hK, hD9⟩, hS.F ht⟩) hS.2.2 dL_asks_295
          · have hwp := hwp.2 c256
            refine lv_aload_n hx hb dL_asks_259 rfl (lv_at hl 0 rfl) ?_
            refine lv_iload hx hb dL_asks_260 (lv_at hl 6 rfl) ?_
            refine lv_iload hx hb dL_asks_262 (lv_at hl 7 rfl) ?_
            have hPc : va_P D vwCl ([] ++ wK C ad u251_7) H := bd_P (lc := []) hP [] rfl
            have hDc : va_D A ([] ++ wK C ad u251_7) := bd_D (lc := []) hD [] rfl (by decide)
            have hFc : ∀ q, va_A ([] ++ wK C ad u251_7) H.size q → A q := bd_free (lc := []) hD hS hA [] rfl
            refine va_calli (va_runV (As := [.int r65, .int r74]) (rest := []) ⟨hx, hb, hml, hown, hts⟩ (mk_X10_beating l hst D C ad r65 r74 u251_7 H.size _ hwp) (cwV 2 hts gc_L_172 rfl rfl rfl (by decide +kernel) ⟨Nat.le_of_ble_eq_true rfl, Nat.le_of_ble_eq_true rfl⟩) ⟨fun a U g mk q => by obtain ⟨q0, q1, qP, qK, qD, qT⟩ := q; exact ⟨q0, q1, qP, va_K.moved (u := U) (U := U.calling g mk a) (Vm.Alike.refl U.vm) qK, qD, qT.mv (U := U.calling g mk a) (State.WarmedH.refl U)⟩, va_recv hK hPc (ci := 10) (q0 := 0) rfl rfl, fun U hU hW => ⟨rfl, by rw [hU], by rw [hU]; exact hPc, va_K.moved hW.alike hK, hDc.weaken (fun _ _ _ _ => trivial), hT.call hS hFc hU hW⟩⟩ rfl rfl hl.1 rfl (lv_room (Nat.le_of_ble_eq_true rfl)) dL_asks_264 ⟨Nat.le_of_ble_eq_true rfl, Nat.le_of_ble_eq_true rfl⟩) hS (fun q _ h => hFc q h) hFc (fun r264 u t H1 locs ht hvm hwp hB hz1 hk1 hS => ?_)
            obtain ⟨u264_8, rfl⟩ : ∃ z, z = u := ⟨_, rfl⟩
            obtain ⟨hP1, -, hD1⟩ := hB
            rw [ht] at hP1
            obtain ⟨hP, hD⟩ := bd_join (lr := [(a6, .inl (C 0, n6, .inl ta6)), (a10, .inl (C 0, n10, .inl ta10))]) (l1 := []) (b1 := wK C ad u264_8) hP hD [] [0, 1] rfl rfl (by decide) (by decide) hk1 hFc hP1 hD1
            generalize H1 = H at hP hS ⊢
            have hP : va_P D vwCl ([(a6, .inl (C 0, n6, .inl ta6)), (a10, .inl (C 0, n10, .inl ta10))] ++ wK C ad u264_8) H := hP
            have hD : va_D A ([(a6, .inl (C 0, n6, .inl ta6)), (a10, .inl (C 0, n10, .inl ta10))] ++ wK C ad u264_8) := hD
            refine lv_iload hx hb dL_asks_267 (lv_at hl 10 rfl) ?_
            refine lv_icmp_ne (tgt := 294) hx hb dL_asks_269 (by decide) (fun c269 => ?_) (fun c269 => ?_)
            · have hwp := hwp.1 c269
              refine lv_iconst (v := 0) hx hb dL_asks_294 (by decide) ?_
              have hP9 : va_P D vwCl ([] ++ wK C ad u264_8) H := bd_P (lc := []) hP [] rfl
              have hD9 : va_D A ([] ++ wK C ad u264_8) := bd_D (lc := []) hD [] rfl (by decide)
              exact W.zret (v := (0 : Int32)) (ty := .boolean) hx hb hr rfl (fun t ht hW => ⟨⟨(0 : Int32), (u264_8), rfl, hwp, by rw [ht]; exact hP9, va_K.moved hW.alike hK, hD9⟩, hS.F ht⟩) hS.2.2 dL_asks_295
            · have hwp := hwp.2 c269
              refine lv_aload_n hx hb dL_asks_272 rfl (lv_at hl 0 rfl) ?_
              refine lv_iload hx hb dL_asks_273 (lv_at hl 6 rfl) ?_
              have hPc : va_P D vwCl ([] ++ wK C ad u264_8) H := bd_P (lc := []) hP [] rfl
              have hDc : va_D A ([] ++ wK C ad u264_8) := bd_D (lc := []) hD [] rfl (by decide)
              have hFc : ∀ q, va_A ([] ++ wK C ad u264_8) H.size q → A q := bd_free (lc := []) hD hS hA [] rfl
              refine va_calli (va_runV (As := [.int r65]) (rest := []) ⟨hx, hb, hml, hown, hts⟩ (mk_X10_joyFor l hst D C ad r65 u264_8 H.size _ hwp) (cwV 1 hts gc_L_175 rfl rfl rfl (by decide +kernel) ⟨Nat.le_of_ble_eq_true rfl, Nat.le_of_ble_eq_true rfl⟩) ⟨fun a U g mk q => by obtain ⟨q0, q1, qP, qK, qD, qT⟩ := q; exact ⟨q0, q1, qP, va_K.moved (u := U) (U := U.calling g mk a) (Vm.Alike.refl U.vm) qK, qD, qT.mv (U := U.calling g mk a) (State.WarmedH.refl U)⟩, va_recv hK hPc (ci := 10) (q0 := 0) rfl rfl, fun U hU hW => ⟨rfl, by rw [hU], by rw [hU]; exact hPc, va_K.moved hW.alike hK, hDc.weaken (fun _ _ _ _ => trivial), hT.call hS hFc hU hW⟩⟩ rfl rfl hl.1 rfl (lv_room (Nat.le_of_ble_eq_true rfl)) dL_asks_275 ⟨Nat.le_of_ble_eq_true rfl, Nat.le_of_ble_eq_true rfl⟩) hS (fun q _ h => hFc q h) hFc (fun r275 u t H1 locs ht hvm hwp hB hz1 hk1 hS => ?_)
              obtain ⟨u275_9, rfl⟩ : ∃ z, z = u := ⟨_, rfl⟩
              obtain ⟨hP1, -, hD1⟩ := hB
              rw [ht] at hP1
              obtain ⟨hP, hD⟩ := bd_join (lr := [(a6, .inl (C 0, n6, .inl ta6)), (a10, .inl (C 0, n10, .inl ta10))]) (l1 := []) (b1 := wK C ad u275_9) hP hD [] [0, 1] rfl rfl (by decide) (by decide) hk1 hFc hP1 hD1
              generalize H1 = H at hP hS ⊢
              have hP : va_P D vwCl ([(a6, .inl (C 0, n6, .inl ta6)), (a10, .inl (C 0, n10, .inl ta10))] ++ wK C ad u275_9) H := hP
              have hD : va_D A ([(a6, .inl (C 0, n6, .inl ta6)), (a10, .inl (C 0, n10, .inl ta10))] ++ wK C ad u275_9) := hD
              refine lv_iload hx hb dL_asks_278 (lv_at hl 11 rfl) ?_
              refine lv_icmp_ne (tgt := 294) hx hb dL_asks_280 (by decide) (fun c280 => ?_) (fun c280 => ?_)
              · have hwp := hwp.1 c280
                refine lv_iconst (v := 0) hx hb dL_asks_294 (by decide) ?_
                have hP9 : va_P D vwCl ([] ++ wK C ad u275_9) H := bd_P (lc := []) hP [] rfl
                have hD9 : va_D A ([] ++ wK C ad u275_9) := bd_D (lc := []) hD [] rfl (by decide)
                exact W.zret (v := (0 : Int32)) (ty := .boolean) hx hb hr rfl (fun t ht hW => ⟨⟨(0 : Int32), (u275_9), rfl, hwp, by rw [ht]; exact hP9, va_K.moved hW.alike hK, hD9⟩, hS.F ht⟩) hS.2.2 dL_asks_295
              · have hwp := hwp.2 c280
                refine lv_aload_n hx hb dL_asks_283 rfl (lv_at hl 0 rfl) ?_
                refine lv_iload hx hb dL_asks_284 (lv_at hl 7 rfl) ?_
                have hPc : va_P D vwCl ([] ++ wK C ad u275_9) H := bd_P (lc := []) hP [] rfl
                have hDc : va_D A ([] ++ wK C ad u275_9) := bd_D (lc := []) hD [] rfl (by decide)
                have hFc : ∀ q, va_A ([] ++ wK C ad u275_9) H.size q → A q := bd_free (lc := []) hD hS hA [] rfl
                refine va_calli (va_runV (As := [.int r74]) (rest := []) ⟨hx, hb, hml, hown, hts⟩ (mk_X10_gainFor l hst D C ad r74 u275_9 H.size _ hwp) (cwV 1 hts gc_L_178 rfl rfl rfl (by decide +kernel) ⟨Nat.le_of_ble_eq_true rfl, Nat.le_of_ble_eq_true rfl⟩) ⟨fun a U g mk q => by obtain ⟨q0, q1, qP, qK, qD, qT⟩ := q; exact ⟨q0, q1, qP, va_K.moved (u := U) (U := U.calling g mk a) (Vm.Alike.refl U.vm) qK, qD, qT.mv (U := U.calling g mk a) (State.WarmedH.refl U)⟩, va_recv hK hPc (ci := 10) (q0 := 0) rfl rfl, fun U hU hW => ⟨rfl, by rw [hU], by rw [hU]; exact hPc, va_K.moved hW.alike hK, hDc.weaken (fun _ _ _ _ => trivial), hT.call hS hFc hU hW⟩⟩ rfl rfl hl.1 rfl (lv_room (Nat.le_of_ble_eq_true rfl)) dL_asks_286 ⟨Nat.le_of_ble_eq_true rfl, Nat.le_of_ble_eq_true rfl⟩) hS (fun q _ h => hFc q h) hFc (fun r286 u t H1 locs ht hvm hwp hB hz1 hk1 hS => ?_)
                obtain ⟨u286_10, rfl⟩ : ∃ z, z = u := ⟨_, rfl⟩
                obtain ⟨hP1, -, hD1⟩ := hB
                rw [ht] at hP1
                obtain ⟨hP, hD⟩ := bd_join (lr := [(a6, .inl (C 0, n6, .inl ta6)), (a10, .inl (C 0, n10, .inl ta10))]) (l1 := []) (b1 := wK C ad u286_10) hP hD [] [0, 1] rfl rfl (by decide) (by decide) hk1 hFc hP1 hD1
                generalize H1 = H at hP hS ⊢
                have hP : va_P D vwCl ([(a6, .inl (C 0, n6, .inl ta6)), (a10, .inl (C 0, n10, .inl ta10))] ++ wK C ad u286_10) H := hP
                have hD : va_D A ([(a6, .inl (C 0, n6, .inl ta6)), (a10, .inl (C 0, n10, .inl ta10))] ++ wK C ad u286_10) := hD
                refine lv_iload hx hb dL_asks_289 (lv_at hl 12 rfl) ?_
                refine lv_icmp_eq (tgt := 296) hx hb dL_asks_291 (by decide) (fun c291 => ?_) (fun c291 => ?_)
                · have hwp := hwp.1 c291
                  refine lv_iload hx hb dL_asks_296 (lv_at hl 5 rfl) ?_
                  refine lv_iconst (v := 1) hx hb dL_asks_298 (by decide) ?_
                  refine lv_iload hx hb dL_asks_299 (lv_at hl 5 rfl) ?_
                  refine lv_bipush (v := 8) hx hb dL_asks_301 (by decide) ?_
                  refine lv_idiv hx hb dL_asks_303 (by decide) ?_
                  refine lv_iadd hx hb dL_asks_304 ?_
                  refine lv_iadd hx hb dL_asks_305 ?_
                  refine lv_topi (fun v306 ev306 => ?_)
                  have hwp := hwp v306 ev306
                  refine lv_istore (lv' := [(5, .int v306), (0, .ref (ad 0)), (1, .int x1), (2, .int x2), (3, .ref a6), (4, .ref a10), (6, .int r65), (7, .int r74), (8, .int x8), (9, .int x9), (10, .int x10), (11, .int x11), (12, .int x12)]) hx hb dL_asks_306 hl (by decide) rfl (fun ls hl => ?_)
                  refine lv_goto (tgt := 55) hx hb dL_asks_308 (by decide) ?_
                  have hl9 := lv_sub (l' := [(0, .ref (ad 0)), (1, .int x1), (2, .int x2), (3, .ref a6), (4, .ref a10), (5, .int v306)]) hl [1, 2, 3, 4, 5, 0] rfl
                  have hP9 : va_P D vwCl ([(a6, .inl (C 0, n6, .inl ta6)), (a10, .inl (C 0, n10, .inl ta10))] ++ wK C ad u286_10) H := bd_P (lc := [(a6, .inl (C 0, n6, .inl ta6)), (a10, .inl (C 0, n10, .inl ta10))]) hP [0, 1] rfl
                  have hD9 : va_D A ([(a6, .inl (C 0, n6, .inl ta6)), (a10, .inl (C 0, n10, .inl ta10))] ++ wK C ad u286_10) := bd_D (lc := [(a6, .inl (C 0, n6, .inl ta6)), (a10, .inl (C 0, n10, .inl ta10))]) hD [0, 1] rfl (by decide)
                  exact ih v306 u286_10 H locs ls hl9 hP9 hD9 hS hwp
                · have hwp := hwp.2 c291
                  refine lv_iconst (v := 0) hx hb dL_asks_294 (by decide) ?_
                  have hP9 : va_P D vwCl ([] ++ wK C ad u286_10) H := bd_P (lc := []) hP [] rfl
                  have hD9 : va_D A ([] ++ wK C ad u286_10) := bd_D (lc := []) hD [] rfl (by decide)
                  exact W.zret (v := (0 : Int32)) (ty := .boolean) hx hb hr rfl (fun t ht hW => ⟨⟨(0 : Int32), (u286_10), rfl, hwp, by rw [ht]; exact hP9, va_K.moved hW.alike hK, hD9⟩, hS.F ht⟩) hS.2.2 dL_asks_295
  unfold wp_L_asks at hwp
  obtain ⟨H, hH⟩ : ∃ H, H = s.heap := ⟨_, rfl⟩
  obtain ⟨locs, hlo⟩ : ∃ z : List Loc, z = [] := ⟨_, rfl⟩
  have hP : va_P D vwCl ([] ++ wK C ad d) H := by rw [hH]; exact hP
  have hD : va_D A ([] ++ wK C ad d) := hD
  have hS : va_S A s.heap H locs := by rw [hH, hlo]; exact hS
  suffices K : W p l e (headSpec ws_L_asks rm_L_asks).room s m ([.ref (ad 0), .int p1] : List Value).toArray below meth c H locs 0 0 (MQ below (q_L_asks D C ad Q A) ([.ref (ad 0), .int p1] : List Value).toArray s 2 512 A) (F0 m 0 ls []) from by rw [hH, hlo] at K; exact K
  refine lv_aload_n hx hb dL_asks_0 rfl (lv_at hl 0 rfl) ?_
  have hPc : va_P D vwCl ([] ++ wK C ad d) H := bd_P (lc := []) hP [] rfl
  have hDc : va_D A ([] ++ wK C ad d) := bd_D (lc := []) hD [] rfl (by decide)
  have hFc : ∀ q, va_A ([] ++ wK C ad d) H.size q → A q := bd_free (lc := []) hD hS hA [] rfl
  refine va_calli (va_runV (As := []) (rest := []) ⟨hx, hb, hml, hown, hts⟩ (mk_X10_points l hst D C ad d H.size _ hwp) (cwV 0 hts gc_L_127 rfl rfl rfl (by decide +kernel) ⟨Nat.le_of_ble_eq_true rfl, Nat.le_of_ble_eq_true rfl⟩) ⟨fun a U g mk q => by obtain ⟨q0, q1, qP, qK, qD, qT⟩ := q; exact ⟨q0, q1, qP, va_K.moved (u := U) (U := U.calling g mk a) (Vm.Alike.refl U.vm) qK, qD, qT.mv (U := U.calling g mk a) (State.WarmedH.refl U)⟩, va_recv hK hPc (ci := 10) (q0 := 0) rfl rfl, fun U hU hW => ⟨rfl, by rw [hU], by rw [hU]; exact hPc, va_K.moved hW.alike hK, hDc.weaken (fun _ _ _ _ => trivial), hT.call hS hFc hU hW⟩⟩ rfl rfl hl.1 rfl (lv_room (Nat.le_of_ble_eq_true rfl)) dL_asks_1 ⟨Nat.le_of_ble_eq_true rfl, Nat.le_of_ble_eq_true rfl⟩) hS (fun q _ h => hFc q h) hFc (fun r1 u t H1 locs ht hvm hwp hB hz1 hk1 hS => ?_)
  obtain ⟨u1_1, rfl⟩ : ∃ z, z = u := ⟨_, rfl⟩
  obtain ⟨hP1, -, hD1⟩ := hB
  rw [ht] at hP1
  obtain ⟨hP, hD⟩ := bd_join (lr := []) (l1 := []) (b1 := wK C ad u1_1) hP hD [] [] rfl rfl (by decide) (by decide) hk1 hFc hP1 hD1
  generalize H1 = H at hP hS ⊢
  have hP : va_P D vwCl ([] ++ wK C ad u1_1) H := hP
  have hD : va_D A ([] ++ wK C ad u1_1) := hD
  refine lv_istore_n (lv' := [(2, .int r1), (0, .ref (ad 0)), (1, .int p1)]) hx hb dL_asks_4 rfl hl (by decide) rfl (fun ls hl => ?_)
  refine lv_iload_n hx hb dL_asks_5 rfl (lv_at hl 0 rfl) ?_
  obtain ⟨hn1, hwp⟩ := hwp
  obtain ⟨n6, hn2⟩ : ∃ z : Nat, r1.toNatClampNeg = z := ⟨_, rfl⟩
  obtain ⟨hn3, hwp⟩ := hwp n6 hn2
  refine va_newa (atype := .int) (N' := n6) (a0 := (n6, .inl (fun _ => 0))) hx hb (hts (.arrayClass .int) wd_146) rfl hK hP hD hS hA (fun cA => rfl) hn1 hn2 (by show _ * 4 ≤ _; omega) (Nat.le_of_ble_eq_true rfl) (by show 0 + n6 ≤ 512; omega) dL_asks_6 (fun a6 cA H hK1 hP hD hS => ?_)
  obtain rfl : cA = C 0 := Option.some.inj ((hK1.2 4 _ rfl).2.symm.trans (hK.2 0 _ rfl).2)
  clear hK1
  have hP := bd_mvP hP
  have hD := bd_mvD hD
  have hP : va_P D vwCl ([(a6, .inl (C 0, n6, .inl (fun _ => 0)))] ++ wK C ad u1_1) H := hP
  have hD : va_D A ([(a6, .inl (C 0, n6, .inl (fun _ => 0)))] ++ wK C ad u1_1) := hD
  refine W.widen (k := 1) (n := 256) (Nat.le_refl _) (by show 0 + n6 ≤ 256; omega) ?_
  refine lv_astore_n (lv' := [(3, .ref a6), (2, .int r1), (0, .ref (ad 0)), (1, .int p1)]) hx hb dL_asks_8 rfl hl (by decide) rfl (fun ls hl => ?_)
  refine lv_iload_n hx hb dL_asks_9 rfl (lv_at hl 1 rfl) ?_
  obtain ⟨hn1, hwp⟩ := hwp
  obtain ⟨n10, hn2⟩ : ∃ z : Nat, r1.toNatClampNeg = z := ⟨_, rfl⟩
  obtain ⟨hn3, hwp⟩ := hwp n10 hn2
  refine va_newa (atype := .int) (N' := n10) (a0 := (n10, .inl (fun _ => 0))) hx hb (hts (.arrayClass .int) wd_146) rfl hK hP hD hS hA (fun cA => rfl) hn1 hn2 (by show _ * 4 ≤ _; omega) (Nat.le_of_ble_eq_true rfl) (by show 256 + n10 ≤ 512; omega) dL_asks_10 (fun a10 cA H hK1 hP hD hS => ?_)
  obtain rfl : cA = C 0 := Option.some.inj ((hK1.2 4 _ rfl).2.symm.trans (hK.2 0 _ rfl).2)
  clear hK1
  have hP := bd_mvP hP
  have hD := bd_mvD hD
  have hP : va_P D vwCl ([(a6, .inl (C 0, n6, .inl (fun _ => 0))), (a10, .inl (C 0, n10, .inl (fun _ => 0)))] ++ wK C ad u1_1) H := hP
  have hD : va_D A ([(a6, .inl (C 0, n6, .inl (fun _ => 0))), (a10, .inl (C 0, n10, .inl (fun _ => 0)))] ++ wK C ad u1_1) := hD
  refine W.widen (k := 2) (n := 512) (Nat.le_refl _) (by show 256 + n10 ≤ 512; omega) ?_
  refine lv_astore (lv' := [(4, .ref a10), (3, .ref a6), (2, .int r1), (0, .ref (ad 0)), (1, .int p1)]) hx hb dL_asks_12 hl (by decide) rfl (fun ls hl => ?_)
  refine lv_iconst (v := 0) hx hb dL_asks_14 (by decide) ?_
  refine lv_istore (lv' := [(5, .int (0 : Int32)), (4, .ref a10), (3, .ref a6), (2, .int r1), (0, .ref (ad 0)), (1, .int p1)]) hx hb dL_asks_15 hl (by decide) rfl (fun ls hl => ?_)
  have hl9 := lv_sub (l' := [(0, .ref (ad 0)), (1, .int p1), (2, .int r1), (3, .ref a6), (4, .ref a10), (5, .int (0 : Int32))]) hl [4, 5, 3, 2, 1, 0] rfl
  have hP9 : va_P D vwCl ([(a6, .inl (C 0, n6, .inl (fun _ => 0))), (a10, .inl (C 0, n10, .inl (fun _ => 0)))] ++ wK C ad u1_1) H := bd_P (lc := [(a6, .inl (C 0, n6, .inl (fun _ => 0))), (a10, .inl (C 0, n10, .inl (fun _ => 0)))]) hP [0, 1] rfl
  have hD9 : va_D A ([(a6, .inl (C 0, n6, .inl (fun _ => 0))), (a10, .inl (C 0, n10, .inl (fun _ => 0)))] ++ wK C ad u1_1) := bd_D (lc := [(a6, .inl (C 0, n6, .inl (fun _ => 0))), (a10, .inl (C 0, n10, .inl (fun _ => 0)))]) hD [0, 1] rfl (by decide)
  obtain ⟨nn9, hwp⟩ := hwp
  refine HL17 a6 a10 n6 n10 p1 r1 _ (fun d ta6 ta10 H locs ls hl hP hD hS hwp => ?_) nn9 (0 : Int32) u1_1 (fun _ => 0) (fun _ => 0) H locs ls hl9 hP9 hD9 hS hwp
  refine lv_iconst (v := 0) hx hb dL_asks_52 (by decide) ?_
  refine lv_istore (lv' := [(5, .int (0 : Int32)), (0, .ref (ad 0)), (1, .int p1), (2, .int r1), (3, .ref a6), (4, .ref a10)]) hx hb dL_asks_53 hl (by decide) rfl (fun ls hl => ?_)
  have hl9 := lv_sub (l' := [(0, .ref (ad 0)), (1, .int p1), (2, .int r1), (3, .ref a6), (4, .ref a10), (5, .int (0 : Int32))]) hl [1, 2, 3, 4, 5, 0] rfl
  have hP9 : va_P D vwCl ([(a6, .inl (C 0, n6, .inl ta6)), (a10, .inl (C 0, n10, .inl ta10))] ++ wK C ad d) H := bd_P (lc := [(a6, .inl (C 0, n6, .inl ta6)), (a10, .inl (C 0, n10, .inl ta10))]) hP [0, 1] rfl
  have hD9 : va_D A ([(a6, .inl (C 0, n6, .inl ta6)), (a10, .inl (C 0, n10, .inl ta10))] ++ wK C ad d) := bd_D (lc := [(a6, .inl (C 0, n6, .inl ta6)), (a10, .inl (C 0, n10, .inl ta10))]) hD [0, 1] rfl (by decide)
  obtain ⟨nn9, hwp⟩ := hwp
  refine HL55 a6 a10 n6 n10 p1 r1 ta6 ta10 nn9 (0 : Int32) d H locs ls hl9 hP9 hD9 hS hwp

