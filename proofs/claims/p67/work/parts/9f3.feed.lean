abbrev ws_L_feed : List Cond := .code yL_feed cL_feed 4 none :: WALL
theorem gc_L_18 : GoodIn WALL (va_wsS RL 18 yL_four ws_L_four) := gc_s wd_825 wd_826 wd_34 wd_827
theorem gc_L_24 : GoodIn WALL (wsV RL 24 RX10 yX10_append ws_X10_append) := gc_v wd_852 wd_853 wd_854 wd_35 wd_855
theorem gc_L_36 : GoodIn WALL (wsV RL 36 RX10 yX10_truncate ws_X10_truncate) := gc_v wd_877 wd_878 wd_879 wd_35 wd_880
abbrev rm_L_feed : Room := { frames := 7, cells := 0, slots := 0, locals := 115 }
abbrev w_L_feed (C : Nat → ClassId) (ad : Nat → Nat) (q1 : Nat) (t1_bs : List Int32) (d : DT) : va_W := ([] ++ wK C ad d)
abbrev q_L_feed (D : va_G) (C : Nat → ClassId) (ad : Nat → Nat) (q1 : Nat) (t1_bs : List Int32) (Q : DT → Prop) (A : Nat → Prop) : Array Value → State → Outcome → State → Prop := va_Qv (fun (u : DT) => Q u) (fun (u : DT) (t : State) => va_P D vwCl (w_L_feed C ad q1 t1_bs u) t.heap ∧ va_K D vwCl (tyL C) t ∧ va_D A (w_L_feed C ad q1 t1_bs u)) A
set_option maxHeartbeats 4000000 in
set_option maxRecDepth 100000 in
theorem met_L_feed (l : Launch) (hst : l.stackTraces = false) (D : va_G) (C : Nat → ClassId) (ad : Nat → Nat) (q1 : Nat) (t1_bs : List Int32) (d : DT) (sz : Nat) (Q : DT → Prop) (hwp : wp_L_feed t1_bs d Q) : Met l yL_feed ws_L_feed rm_L_feed (va_Pc [.ref (ad 0), .ref q1] (fun U => U.heap.size = sz ∧ va_P D vwCl (w_L_feed C ad q1 t1_bs d) U.heap ∧ va_K D vwCl (tyL C) U ∧ va_D (fun _ => True) (w_L_feed C ad q1 t1_bs d) ∧ TX (va_A (w_L_feed C ad q1 t1_bs d) sz) U U.heap ∧ StrC t1_bs q1 (va_A (w_L_feed C ad q1 t1_bs d) sz) U U.heap)) (q_L_feed D C ad q1 t1_bs Q (va_A (w_L_feed C ad q1 t1_bs d) sz)) 0 0 (va_A (w_L_feed C ad q1 t1_bs d) sz) := by
  refine Met.ofW (cc := cL_feed) (maxL := 4) (ret := none) (by decide) rfl ?_
  intro p e s m args below meth c s₁ B hml hv
  obtain ⟨rfl, hsz, hP, hK, hD0, hT, hs_q1⟩ := hv
  have hx := B.exec
  have hb := B.bytes
  have hr := B.returns
  have hts : ∀ w ∈ WALL, w.before _ s = true := fun w h => atoms_spec (ws := ws_L_feed) B.pre w (List.mem_cons_of_mem _ h)
  have hown : s.vm.findClass RL = some m.cls := findClass_of_methodNamed B.named
  have hlocks := B.notSynchronized
  subst hsz
  have hD := hD0.self (sz := s.heap.size)
  generalize hAe : va_A (w_L_feed C ad q1 t1_bs d) s.heap.size = A at hD ⊢ hT hs_q1
  have hA : ∀ q : Nat, s.heap.size ≤ q → A q := fun q h => by rw [← hAe]; exact Or.inr h
  have hS : va_S A s.heap s.heap [] := va_S.rf
  have hl := lv_entry ([.ref (ad 0), .ref q1]) (n := 4) (Nat.le_of_ble_eq_true rfl)
  rw [lg_entry_eq]
  generalize (lg_sl ([.ref (ad 0), .ref q1]) ++ List.replicate (4 - (lg_sl ([.ref (ad 0), .ref q1])).length) Slot.unset).toArray = ls at hl ⊢
  have hl : lv_has ls 4 [(0, .ref (ad 0)), (1, .ref q1)] := hl
  have HB16 : ∀  (k4 : Int32 → Int32 → DT → Prop) (hk4 : ∀ (x2 : Int32) (x3 : Int32) (d : DT) (H : Heap) (locs : List Loc) (ls : Array Slot), lv_has ls 4 [(0, .ref (ad 0)), (1, .ref q1), (2, .int x2), (3, .int x3)] → va_P D vwCl ([] ++ wK C ad d) H → va_D A ([] ++ wK C ad d) → va_S A s.heap H locs → k4 x2 x3 d → W p l e (headSpec ws_L_feed rm_L_feed).room s m ([.ref (ad 0), .ref q1] : List Value).toArray below meth c H locs 0 0 (MQ below (q_L_feed D C ad q1 t1_bs Q A) ([.ref (ad 0), .ref q1] : List Value).toArray s 0 0 A) (F0 m 4 ls [])) (k63 : Int32 → DT → Prop) (hk63 : ∀ (x2 : Int32) (d : DT) (H : Heap) (locs : List Loc) (ls : Array Slot), lv_has ls 4 [(0, .ref (ad 0)), (1, .ref q1), (2, .int x2)] → va_P D vwCl ([] ++ wK C ad d) H → va_D A ([] ++ wK C ad d) → va_S A s.heap H locs → k63 x2 d → W p l e (headSpec ws_L_feed rm_L_feed).room s m ([.ref (ad 0), .ref q1] : List Value).toArray below meth c H locs 0 0 (MQ below (q_L_feed D C ad q1 t1_bs Q A) ([.ref (ad 0), .ref q1] : List Value).toArray s 0 0 A) (F0 m 63 ls [])) (x3 : Int32) (d : DT) (H : Heap) (locs : List Loc) (ls : Array Slot), lv_has ls 4 [(0, .ref (ad 0)), (1, .ref q1), (3, .int x3)] → va_P D vwCl ([] ++ wK C ad d) H → va_D A ([] ++ wK C ad d) → va_S A s.heap H locs → wp_L_feed_b16 t1_bs k4 k63 Q x3 d → W p l e (headSpec ws_L_feed rm_L_feed).room s m ([.ref (ad 0), .ref q1] : List Value).toArray below meth c H locs 0 0 (MQ below (q_L_feed D C ad q1 t1_bs Q A) ([.ref (ad 0), .ref q1] : List Value).toArray s 0 0 A) (F0 m 16 ls []) := by
    intro k4 hk4 k63 hk63 x3 d H locs ls hl hP hD hS hwp
    unfold wp_L_feed_b16 at hwp
    refine lv_aload_n hx hb dL_feed_16 rfl (lv_at hl 0 rfl) ?_
    refine lv_aload_n hx hb dL_feed_17 rfl (lv_at hl 1 rfl) ?_
    refine lv_iload_n hx hb dL_feed_18 rfl (lv_at hl 2 rfl) ?_
    have hPc := hP.sub (ws' := []) [] rfl
    have hDc := hD.sub (ws' := []) [] (by decide) rfl
    have hFc := va_free (wc := []) hD hS hA [] rfl
    refine va_calli (va_runS (As := [.ref q1, .int x3]) (rest := [.ref (ad 0)]) ⟨hx, hb, hml, hown, hts⟩ (met_L_four l hst D C q1 x3 t1_bs H.size _ hwp) (va_cwS 2 hts gc_L_18 rfl rfl rfl (by decide +kernel) ⟨Nat.le_of_ble_eq_true rfl, Nat.le_of_ble_eq_true rfl⟩) ⟨fun a U g mk q => by obtain ⟨q0, q1, qP, qK, qD, qT, qS_q0⟩ := q; exact ⟨q0, q1, qP, va_K.moved (u := U) (U := U.calling g mk a) (Vm.Alike.refl U.vm) qK, qD, qT.mv (U := U.calling g mk a) (State.WarmedH.refl U), qS_q0.moved (U := U.calling g mk a) (Vm.Alike.refl U.vm)⟩, fun U hU hW => ⟨rfl, by rw [hU], by rw [hU]; exact hPc, va_K.moved hW.alike hK, hDc.weaken (fun _ _ _ _ => trivial), hT.call hS hFc hU hW, hs_q1.call hS hFc hU hW⟩⟩ rfl rfl hl.1 rfl (lv_room (Nat.le_of_ble_eq_true rfl)) dL_feed_19 ⟨Nat.le_of_ble_eq_true rfl, Nat.le_of_ble_eq_true rfl⟩) hS (fun q _ h => hFc q h) hFc (fun r19 u t H1 locs ht hvm hwp hB hz1 hk1 hS => ?_)
    obtain ⟨hP1, -, hD1⟩ := hB
    rw [ht] at hP1
    obtain ⟨hP, hD⟩ := bd_joinL (lr := []) (l1 := []) hP hD [] [] rfl rfl (by decide) (by decide) hk1 hFc hP1 hD1
    generalize H1 = H at hP hS ⊢
    have hP : va_P D vwCl ([] ++ wK C ad d) H := hP
    have hD : va_D A ([] ++ wK C ad d) := hD
    refine lv_aload_n hx hb dL_feed_22 rfl (lv_at hl 1 rfl) ?_
    refine lv_iload_n hx hb dL_feed_23 rfl (lv_at hl 2 rfl) ?_
    refine lv_iconst (v := 4) hx hb dL_feed_24 (by decide) ?_
    refine lv_iadd hx hb dL_feed_25 ?_
    have hPc := hP.sub (ws' := []) [] rfl
    have hDc := hD.sub (ws' := []) [] (by decide) rfl
    have hFc := va_free (wc := []) hD hS hA [] rfl
    refine va_calli (va_runS (As := [.ref q1, .int (x3 + (4 : Int32))]) (rest := [.int r19, .ref (ad 0)]) ⟨hx, hb, hml, hown, hts⟩ (met_L_four l hst D C q1 (x3 + (4 : Int32)) t1_bs H.size _ hwp) (va_cwS 2 hts gc_L_18 rfl rfl rfl (by decide +kernel) ⟨Nat.le_of_ble_eq_true rfl, Nat.le_of_ble_eq_true rfl⟩) ⟨fun a U g mk q => by obtain ⟨q0, q1, qP, qK, qD, qT, qS_q0⟩ := q; exact ⟨q0, q1, qP, va_K.moved (u := U) (U := U.calling g mk a) (Vm.Alike.refl U.vm) qK, qD, qT.mv (U := U.calling g mk a) (State.WarmedH.refl U), qS_q0.moved (U := U.calling g mk a) (Vm.Alike.refl U.vm)⟩, fun U hU hW => ⟨rfl, by rw [hU], by rw [hU]; exact hPc, va_K.moved hW.alike hK, hDc.weaken (fun _ _ _ _ => trivial), hT.call hS hFc hU hW, hs_q1.call hS hFc hU hW⟩⟩ rfl rfl hl.1 rfl (lv_room (Nat.le_of_ble_eq_true rfl)) dL_feed_26 ⟨Nat.le_of_ble_eq_true rfl, Nat.le_of_ble_eq_true rfl⟩) hS (fun q _ h => hFc q h) hFc (fun r26 u t H1 locs ht hvm hwp hB hz1 hk1 hS => ?_)
    obtain ⟨hP1, -, hD1⟩ := hB
    rw [ht] at hP1
    obtain ⟨hP, hD⟩ := bd_joinL (lr := []) (l1 := []) hP hD [] [] rfl rfl (by decide) (by decide) hk1 hFc hP1 hD1
    generalize H1 = H at hP hS ⊢
    have hP : va_P D vwCl ([] ++ wK C ad d) H := hP
    have hD : va_D A ([] ++ wK C ad d) := hD
    refine lv_aload_n hx hb dL_feed_29 rfl (lv_at hl 1 rfl) ?_
    refine lv_iload_n hx hb dL_feed_30 rfl (lv_at hl 2 rfl) ?_
    refine lv_bipush (v := 8) hx hb dL_feed_31 (by decide) ?_
    refine lv_iadd hx hb dL_feed_33 ?_
    have hPc := hP.sub (ws' := []) [] rfl
    have hDc := hD.sub (ws' := []) [] (by decide) rfl
    have hFc := va_free (wc := []) hD hS hA [] rfl
    refine va_calli (va_runS (As := [.ref q1, .int (x3 + (8 : Int32))]) (rest := [.int r26, .int r19, .ref (ad 0)]) ⟨hx, hb, hml, hown, hts⟩ (met_L_four l hst D C q1 (x3 + (8 : Int32)) t1_bs H.size _ hwp) (va_cwS 2 hts gc_L_18 rfl rfl rfl (by decide +kernel) ⟨Nat.le_of_ble_eq_true rfl, Nat.le_of_ble_eq_true rfl⟩) ⟨fun a U g mk q => by obtain ⟨q0, q1, qP, qK, qD, qT, qS_q0⟩ := q; exact ⟨q0, q1, qP, va_K.moved (u := U) (U := U.calling g mk a) (Vm.Alike.refl U.vm) qK, qD, qT.mv (U := U.calling g mk a) (State.WarmedH.refl U), qS_q0.moved (U := U.calling g mk a) (Vm.Alike.refl U.vm)⟩, fun U hU hW => ⟨rfl, by rw [hU], by rw [hU]; exact hPc, va_K.moved hW.alike hK, hDc.weaken (fun _ _ _ _ => trivial), hT.call hS hFc hU hW, hs_q1.call hS hFc hU hW⟩⟩ rfl rfl hl.1 rfl (lv_room (Nat.le_of_ble_eq_true rfl)) dL_feed_34 ⟨Nat.le_of_ble_eq_true rfl, Nat.le_of_ble_eq_true rfl⟩) hS (fun q _ h => hFc q h) hFc (fun r34 u t H1 locs ht hvm hwp hB hz1 hk1 hS => ?_)
    obtain ⟨hP1, -, hD1⟩ := hB
    rw [ht] at hP1
    obtain ⟨hP, hD⟩ := bd_joinL (lr := []) (l1 := []) hP hD [] [] rfl rfl (by decide) (by decide) hk1 hFc hP1 hD1
    generalize H1 = H at hP hS ⊢
    have hP : va_P D vwCl ([] ++ wK C ad d) H := hP
    have hD : va_D A ([] ++ wK C ad d) := hD
    refine lv_aload_n hx hb dL_feed_37 rfl (lv_at hl 1 rfl) ?_
    refine lv_iload_n hx hb dL_feed_38 rfl (lv_at hl 2 rfl) ?_
    refine lv_bipush (v := 12) hx hb dL_feed_39 (by decide) ?_
    refine lv_iadd hx hb dL_feed_41 ?_
    have hPc := hP.sub (ws' := []) [] rfl
    have hDc := hD.sub (ws' := []) [] (by decide) rfl
    have hFc := va_free (wc := []) hD hS hA [] rfl
    refine va_calli (va_runS (As := [.ref q1, .int (x3 + (12 : Int32))]) (rest := [.int r34, .int r26, .int r19, .ref (ad 0)]) ⟨hx, hb, hml, hown, hts⟩ (met_L_four l hst D C q1 (x3 + (12 : Int32)) t1_bs H.size _ hwp) (va_cwS 2 hts gc_L_18 rfl rfl rfl (by decide +kernel) ⟨Nat.le_of_ble_eq_true rfl, Nat.le_of_ble_eq_true rfl⟩) ⟨fun a U g mk q => by obtain ⟨q0, q1, qP, qK, qD, qT, qS_q0⟩ := q; exact ⟨q0, q1, qP, va_K.moved (u := U) (U := U.calling g mk a) (Vm.Alike.refl U.vm) qK, qD, qT.mv (U := U.calling g mk a) (State.WarmedH.refl U), qS_q0.moved (U := U.calling g mk a) (Vm.Alike.refl U.vm)⟩, fun U hU hW => ⟨rfl, by rw [hU], by rw [hU]; exact hPc, va_K.moved hW.alike hK, hDc.weaken (fun _ _ _ _ => trivial), hT.call hS hFc hU hW, hs_q1.call hS hFc hU hW⟩⟩ rfl rfl hl.1 rfl (lv_room (Nat.le_of_ble_eq_true rfl)) dL_feed_42 ⟨Nat.le_of_ble_eq_true rfl, Nat.le_of_ble_eq_true rfl⟩) hS (fun q _ h => hFc q h) hFc (fun r42 u t H1 locs ht hvm hwp hB hz1 hk1 hS => ?_)
    obtain ⟨hP1, -, hD1⟩ := hB
    rw [ht] at hP1
    obtain ⟨hP, hD⟩ := bd_joinL (lr := []) (l1 := []) hP hD [] [] rfl rfl (by decide) (by decide) hk1 hFc hP1 hD1
    generalize H1 = H at hP hS ⊢
    have hP : va_P D vwCl ([] ++ wK C ad d) H := hP
    have hD : va_D A ([] ++ wK C ad d) := hD
    refine lv_aload_n hx hb dL_feed_45 rfl (lv_at hl 1 rfl) ?_
    refine lv_iload_n hx hb dL_feed_46 rfl (lv_at hl 2 rfl) ?_
    refine lv_bipush (v := 16) hx hb dL_feed_47 (by decide) ?_
    refine lv_iadd hx hb dL_feed_49 ?_
    have hPc := hP.sub (ws' := []) [] rfl
    have hDc := hD.sub (ws' := []) [] (by decide) rfl
    have hFc := va_free (wc := []) hD hS hA [] rfl
    refine va_calli (va_runS (As := [.ref q1, .int (x3 + (16 : Int32))]) (rest := [.int r42, .int r34, .int r26, .int r19, .ref (ad 0)]) ⟨hx, hb, hml, hown, hts⟩ (met_L_four l hst D C q1 (x3 + (16 : Int32)) t1_bs H.size _ hwp) (va_cwS 2 hts gc_L_18 rfl rfl rfl (by decide +kernel) ⟨Nat.le_of_ble_eq_true rfl, Nat.le_of_ble_eq_true rfl⟩) ⟨fun a U g mk q => by obtain ⟨q0, q1, qP, qK, qD, qT, qS_q0⟩ := q; exact ⟨q0, q1, qP, va_K.moved (u := U) (U := U.calling g mk a) (Vm.Alike.refl U.vm) qK, qD, qT.mv (U := U.calling g mk a) (State.WarmedH.refl U), qS_q0.moved (U := U.calling g mk a) (Vm.Alike.refl U.vm)⟩, fun U hU hW => ⟨rfl, by rw [hU], by rw [hU]; exact hPc, va_K.moved hW.alike hK, hDc.weaken (fun _ _ _ _ => trivial), hT.call hS hFc hU hW, hs_q1.call hS hFc hU hW⟩⟩ rfl rfl hl.1 rfl (lv_room (Nat.le_of_ble_eq_true rfl)) dL_feed_50 ⟨Nat.le_of_ble_eq_true rfl, Nat.le_of_ble_eq_true rfl⟩) hS (fun q _ h => hFc q h) hFc (fun r50 u t H1 locs ht hvm hwp hB hz1 hk1 hS => ?_)
    obtain ⟨hP1, -, hD1⟩ := hB
    rw [ht] at hP1
    obtain ⟨hP, hD⟩ := bd_joinL (lr := []) (l1 := []) hP hD [] [] rfl rfl (by decide) (by decide) hk1 hFc hP1 hD1
    generalize H1 = H at hP hS ⊢
    have hP : va_P D vwCl ([] ++ wK C ad d) H := hP
    have hD : va_D A ([] ++ wK C ad d) := hD
    have hPc : va_P D vwCl ([] ++ wK C ad d) H := bd_P (lc := []) hP [] rfl
    have hDc : va_D A ([] ++ wK C ad d) := bd_D (lc := []) hD [] rfl (by decide)
    have hFc : ∀ q, va_A ([] ++ wK C ad d) H.size q → A q := bd_free (lc := []) hD hS hA [] rfl
    refine va_calli (va_runV (As := [.int r19, .int r26, .int r34, .int r42, .int r50]) (rest := []) ⟨hx, hb, hml, hown, hts⟩ (mk_X10_append l hst D C ad r19 r26 r34 r42 r50 d H.size _ hwp) (cwV 5 hts gc_L_24 rfl rfl rfl (by decide +kernel) ⟨Nat.le_of_ble_eq_true rfl, Nat.le_of_ble_eq_true rfl⟩) ⟨fun a U g mk q => by obtain ⟨q0, q1, qP, qK, qD, qT⟩ := q; exact ⟨q0, q1, qP, va_K.moved (u := U) (U := U.calling g mk a) (Vm.Alike.refl U.vm) qK, qD, qT.mv (U := U.calling g mk a) (State.WarmedH.refl U)⟩, va_recv hK hPc (ci := 10) (q0 := 0) rfl rfl, fun U hU hW => ⟨rfl, by rw [hU], by rw [hU]; exact hPc, va_K.moved hW.alike hK, hDc.weaken (fun _ _ _ _ => trivial), hT.call hS hFc hU hW⟩⟩ rfl rfl hl.1 rfl (lv_room (Nat.le_of_ble_eq_true rfl)) dL_feed_53 ⟨Nat.le_of_ble_eq_true rfl, Nat.le_of_ble_eq_true rfl⟩) hS (fun q _ h => hFc q h) hFc (fun r53 u t H1 locs ht hvm hwp hB hz1 hk1 hS => ?_)
    obtain ⟨u53_1, rfl⟩ : ∃ z, z = u := ⟨_, rfl⟩
    obtain ⟨hP1, -, hD1⟩ := hB
    rw [ht] at hP1
    obtain ⟨hP, hD⟩ := bd_join (lr := []) (l1 := []) (b1 := wK C ad u53_1) hP hD [] [] rfl rfl (by decide) (by decide) hk1 hFc hP1 hD1
    generalize H1 = H at hP hS ⊢
    have hP : va_P D vwCl ([] ++ wK C ad u53_1) H := hP
    have hD : va_D A ([] ++ wK C ad u53_1) := hD
    refine lv_istore_n (lv' := [(2, .int r53), (0, .ref (ad 0)), (1, .ref q1), (3, .int x3)]) hx hb dL_feed_56 rfl hl (by decide) rfl (fun ls hl => ?_)
    refine lv_iinc (v := x3 + 20) (lv' := [(3, .int (x3 + 20)), (2, .int r53), (0, .ref (ad 0)), (1, .ref q1)]) hx hb dL_feed_57 hl (k := 3) rfl rfl (by decide) rfl (fun ls hl => ?_)
    refine lv_goto (tgt := 4) hx hb dL_feed_60 (by decide) ?_
    have hl9 := lv_sub (l' := [(0, .ref (ad 0)), (1, .ref q1), (2, .int r53), (3, .int (x3 + 20))]) hl [2, 3, 1, 0] rfl
    have hP9 : va_P D vwCl ([] ++ wK C ad u53_1) H := bd_P (lc := []) hP [] rfl
    have hD9 : va_D A ([] ++ wK C ad u53_1) := bd_D (lc := []) hD [] rfl (by decide)
    exact hk4 r53 (x3 + 20) u53_1 H locs ls hl9 hP9 hD9 hS hwp
  have HL4 : ∀  (k63 : Int32 → DT → Prop) (hk63 : ∀ (x2 : Int32) (d : DT) (H : Heap) (locs : List Loc) (ls : Array Slot), lv_has ls 4 [(0, .ref (ad 0)), (1, .ref q1), (2, .int x2)] → va_P D vwCl ([] ++ wK C ad d) H → va_D A ([] ++ wK C ad d) → va_S A s.heap H locs → k63 x2 d → W p l e (headSpec ws_L_feed rm_L_feed).room s m ([.ref (ad 0), .ref q1] : List Value).toArray below meth c H locs 0 0 (MQ below (q_L_feed D C ad q1 t1_bs Q A) ([.ref (ad 0), .ref q1] : List Value).toArray s 0 0 A) (F0 m 63 ls [])) (n4 : Nat) (x2 : Int32) (x3 : Int32) (d : DT) (H : Heap) (locs : List Loc) (ls : Array Slot), lv_has ls 4 [(0, .ref (ad 0)), (1, .ref q1), (2, .int x2), (3, .int x3)] → va_P D vwCl ([] ++ wK C ad d) H → va_D A ([] ++ wK C ad d) → va_S A s.heap H locs → wp_L_feed_L4 t1_bs k63 Q n4 x2 x3 d → W p l e (headSpec ws_L_feed rm_L_feed).room s m ([.ref (ad 0), .ref q1] : List Value).toArray below meth c H locs 0 0 (MQ below (q_L_feed D C ad q1 t1_bs Q A) ([.ref (ad 0), .ref q1] : List Value).toArray s 0 0 A) (F0 m 4 ls []) := by
    intro k63 hk63 n4
    induction n4 with
    | zero =>
      intro x2 x3 d H locs ls hl hP hD hS hwp
      exact False.elim hwp
    | succ n4 ih =>
      intro x2 x3 d H locs ls hl hP hD hS hwp
      unfold wp_L_feed_L4 at hwp
      refine lv_iload_n hx hb dL_feed_4 rfl (lv_at hl 3 rfl) ?_
      refine lv_aload_n hx hb dL_feed_5 rfl (lv_at hl 1 rfl) ?_
      have hPc := hP.sub (ws' := []) [] rfl
      have hDc := hD.sub (ws' := []) [] (by decide) rfl
      have hFc := va_free (wc := []) hD hS hA [] rfl
      refine va_calli (va_runV (As := []) (rest := [.int x3]) ⟨hx, hb, hml, hown, hts⟩ (met_J0_length_8abf5 l hst D C q1 t1_bs H.size _ hwp) (cwV 0 hts gc_L_8 rfl rfl rfl (by decide +kernel) ⟨Nat.le_of_ble_eq_true rfl, Nat.le_of_ble_eq_true rfl⟩) ⟨fun a U g mk q => by obtain ⟨q0, q1, qP, qK, qD, qT, qS_q⟩ := q; exact ⟨q0, q1, qP, va_K.moved (u := U) (U := U.calling g mk a) (Vm.Alike.refl U.vm) qK, qD, qT.mv (U := U.calling g mk a) (State.WarmedH.refl U), qS_q.moved (U := U.calling g mk a) (Vm.Alike.refl U.vm)⟩, hs_q1.recv hS, fun U hU hW => ⟨rfl, by rw [hU], by rw [hU]; exact hPc, va_K.moved hW.alike hK, hDc.weaken (fun _ _ _ _ => trivial), hT.call hS hFc hU hW, hs_q1.call hS hFc hU hW⟩⟩ rfl rfl hl.1 rfl (lv_room (Nat.le_of_ble_eq_true rfl)) dL_feed_6 ⟨Nat.le_of_ble_eq_true rfl, Nat.le_of_ble_eq_true rfl⟩) hS (fun q _ h => hFc q h) hFc (fun r6 u t H1 locs ht hvm hwp hB hz1 hk1 hS => ?_)
      obtain ⟨hP1, -, hD1⟩ := hB
      rw [ht] at hP1
      obtain ⟨hP, hD⟩ := bd_joinL (lr := []) (l1 := []) hP hD [] [] rfl rfl (by decide) (by decide) hk1 hFc hP1 hD1
      generalize H1 = H at hP hS ⊢
      have hP : va_P D vwCl ([] ++ wK C ad d) H := hP
      have hD : va_D A ([] ++ wK C ad d) := hD
      refine lv_icmp_lt (tgt := 16) hx hb dL_feed_9 (by decide) (fun c9 => ?_) (fun c9 => ?_)
      · have hwp := hwp.1 c9
        have hl9 := lv_sub (l' := [(0, .ref (ad 0)), (1, .ref q1), (3, .int x3)]) hl [0, 1, 3] rfl
        have hP9 : va_P D vwCl ([] ++ wK C ad d) H := bd_P (lc := []) hP [] rfl
        have hD9 : va_D A ([] ++ wK C ad d) := bd_D (lc := []) hD [] rfl (by decide)
        exact HB16 _ (fun z0 z1 z2 H locs ls hl hP hD hS hwp => ih z0 z1 z2 H locs ls hl hP hD hS hwp) _ hk63 x3 d H locs ls hl9 hP9 hD9 hS hwp
      · have hwp := hwp.2 c9
        refine lv_iload_n hx hb dL_feed_12 rfl (lv_at hl 3 rfl) ?_
        refine lv_if_ne (tgt := 63) hx hb dL_feed_13 (by decide) (fun c13 => ?_) (fun c13 => ?_)
        · have hwp := hwp.1 c13
          have hl9 := lv_sub (l' := [(0, .ref (ad 0)), (1, .ref q1), (2, .int x2)]) hl [0, 1, 2] rfl
          have hP9 : va_P D vwCl ([] ++ wK C ad d) H := bd_P (lc := []) hP [] rfl
          have hD9 : va_D A ([] ++ wK C ad d) := bd_D (lc := []) hD [] rfl (by decide)
          exact hk63 x2 d H locs ls hl9 hP9 hD9 hS hwp
        · have hwp := hwp.2 c13
          have hl9 := lv_sub (l' := [(0, .ref (ad 0)), (1, .ref q1), (3, .int x3)]) hl [0, 1, 3] rfl
          have hP9 : va_P D vwCl ([] ++ wK C ad d) H := bd_P (lc := []) hP [] rfl
          have hD9 : va_D A ([] ++ wK C ad d) := bd_D (lc := []) hD [] rfl (by decide)
          exact HB16 _ (fun z0 z1 z2 H locs ls hl hP hD hS hwp => ih z0 z1 z2 H locs ls hl hP hD hS hwp) _ hk63 x3 d H locs ls hl9 hP9 hD9 hS hwp
  unfold wp_L_feed at hwp
  obtain ⟨H, hH⟩ : ∃ H, H = s.heap := ⟨_, rfl⟩
  obtain ⟨locs, hlo⟩ : ∃ z : List Loc, z = [] := ⟨_, rfl⟩
  have hP : va_P D vwCl ([] ++ wK C ad d) H := by rw [hH]; exact hP
  have hD : va_D A ([] ++ wK C ad d) := hD
  have hS : va_S A s.heap H locs := by rw [hH, hlo]; exact hS
  suffices K : W p l e (headSpec ws_L_feed rm_L_feed).room s m ([.ref (ad 0), .ref q1] : List Value).toArray below meth c H locs 0 0 (MQ below (q_L_feed D C ad q1 t1_bs Q A) ([.ref (ad 0), .ref q1] : List Value).toArray s 0 0 A) (F0 m 0 ls []) from by rw [hH, hlo] at K; exact K
  refine lv_iconst (v := 0) hx hb dL_feed_0 (by decide) ?_
  refine lv_istore_n (lv' := [(2, .int (0 : Int32)), (0, .ref (ad 0)), (1, .ref q1)]) hx hb dL_feed_1 rfl hl (by decide) rfl (fun ls hl => ?_)
  refine lv_iconst (v := 0) hx hb dL_feed_2 (by decide) ?_
  refine lv_istore_n (lv' := [(3, .int (0 : Int32)), (2, .int (0 : Int32)), (0, .ref (ad 0)), (1, .ref q1)]) hx hb dL_feed_3 rfl hl (by decide) rfl (fun ls hl => ?_)
  have hl9 := lv_sub (l' := [(0, .ref (ad 0)), (1, .ref q1), (2, .int (0 : Int32)), (3, .int (0 : Int32))]) hl [2, 3, 1, 0] rfl
  have hP9 : va_P D vwCl ([] ++ wK C ad d) H := bd_P (lc := []) hP [] rfl
  have hD9 : va_D A ([] ++ wK C ad d) := bd_D (lc := []) hD [] rfl (by decide)
  obtain ⟨nn9, hwp⟩ := hwp
  refine HL4 _ (fun x2 d H locs ls hl hP hD hS hwp => ?_) nn9 (0 : Int32) (0 : Int32) d H locs ls hl9 hP9 hD9 hS hwp
  refine lv_aload_n hx hb dL_feed_63 rfl (lv_at hl 0 rfl) ?_
  refine lv_iload_n hx hb dL_feed_64 rfl (lv_at hl 2 rfl) ?_
  refine lv_aload_n hx hb dL_feed_65 rfl (lv_at hl 1 rfl) ?_
  have hPc := hP.sub (ws' := []) [] rfl
  have hDc := hD.sub (ws' := []) [] (by decide) rfl
  have hFc := va_free (wc := []) hD hS hA [] rfl
  refine va_calli (va_runV (As := []) (rest := [.int x2, .ref (ad 0)]) ⟨hx, hb, hml, hown, hts⟩ (met_J0_length_8abf5 l hst D C q1 t1_bs H.size _ hwp) (cwV 0 hts gc_L_8 rfl rfl rfl (by decide +kernel) ⟨Nat.le_of_ble_eq_true rfl, Nat.le_of_ble_eq_true rfl⟩) ⟨fun a U g mk q => by obtain ⟨q0, q1, qP, qK, qD, qT, qS_q⟩ := q; exact ⟨q0, q1, qP, va_K.moved (u := U) (U := U.calling g mk a) (Vm.Alike.refl U.vm) qK, qD, qT.mv (U := U.calling g mk a) (State.WarmedH.refl U), qS_q.moved (U := U.calling g mk a) (Vm.Alike.refl U.vm)⟩, hs_q1.recv hS, fun U hU hW => ⟨rfl, by rw [hU], by rw [hU]; exact hPc, va_K.moved hW.alike hK, hDc.weaken (fun _ _ _ _ => trivial), hT.call hS hFc hU hW, hs_q1.call hS hFc hU hW⟩⟩ rfl rfl hl.1 rfl (lv_room (Nat.le_of_ble_eq_true rfl)) dL_feed_66 ⟨Nat.le_of_ble_eq_true rfl, Nat.le_of_ble_eq_true rfl⟩) hS (fun q _ h => hFc q h) hFc (fun r66 u t H1 locs ht hvm hwp hB hz1 hk1 hS => ?_)
  obtain ⟨hP1, -, hD1⟩ := hB
  rw [ht] at hP1
  obtain ⟨hP, hD⟩ := bd_joinL (lr := []) (l1 := []) hP hD [] [] rfl rfl (by decide) (by decide) hk1 hFc hP1 hD1
  generalize H1 = H at hP hS ⊢
  have hP : va_P D vwCl ([] ++ wK C ad d) H := hP
  have hD : va_D A ([] ++ wK C ad d) := hD
  refine va_mmin (own := RL) (index := 30) hx hb (hml.trans hl.1.symm) hown (hts (.methodLink RL 30 Lib.Math.min.name) wd_876) (hts (.static Lib.Math.min.name) wd_645) (hts (.initialized "java/lang/Math") wd_51) (hts (.code Lib.Math.min.name Lib.Math.min.code 2 (some .int)) wd_646_0) (Nat.le_of_ble_eq_true rfl) (Nat.le_of_ble_eq_true rfl) (Nat.zero_le _) (Nat.zero_le _) dL_feed_69 ?_
  have hPc : va_P D vwCl ([] ++ wK C ad d) H := bd_P (lc := []) hP [] rfl
  have hDc : va_D A ([] ++ wK C ad d) := bd_D (lc := []) hD [] rfl (by decide)
  have hFc : ∀ q, va_A ([] ++ wK C ad d) H.size q → A q := bd_free (lc := []) hD hS hA [] rfl
  refine va_callv (va_runV (As := [.int (if r66 < x2 then r66 else x2)]) (rest := []) ⟨hx, hb, hml, hown, hts⟩ (mk_X10_truncate l hst D C ad (if r66 < x2 then r66 else x2) d H.size _ hwp) (cwV 1 hts gc_L_36 rfl rfl rfl (by decide +kernel) ⟨Nat.le_of_ble_eq_true rfl, Nat.le_of_ble_eq_true rfl⟩) ⟨fun a U g mk q => by obtain ⟨q0, q1, qP, qK, qD, qT⟩ := q; exact ⟨q0, q1, qP, va_K.moved (u := U) (U := U.calling g mk a) (Vm.Alike.refl U.vm) qK, qD, qT.mv (U := U.calling g mk a) (State.WarmedH.refl U)⟩, va_recv hK hPc (ci := 10) (q0 := 0) rfl rfl, fun U hU hW => ⟨rfl, by rw [hU], by rw [hU]; exact hPc, va_K.moved hW.alike hK, hDc.weaken (fun _ _ _ _ => trivial), hT.call hS hFc hU hW⟩⟩ rfl rfl hl.1 rfl (lv_room (Nat.le_of_ble_eq_true rfl)) dL_feed_72 ⟨Nat.le_of_ble_eq_true rfl, Nat.le_of_ble_eq_true rfl⟩) hS (fun q _ h => hFc q h) hFc (fun u t H1 locs ht hvm hwp hB hz1 hk1 hS => ?_)
  obtain ⟨u72_2, rfl⟩ : ∃ z, z = u := ⟨_, rfl⟩
  obtain ⟨hP1, -, hD1⟩ := hB
  rw [ht] at hP1
  obtain ⟨hP, hD⟩ := bd_join (lr := []) (l1 := []) (b1 := wK C ad u72_2) hP hD [] [] rfl rfl (by decide) (by decide) hk1 hFc hP1 hD1
  generalize H1 = H at hP hS ⊢
  have hP : va_P D vwCl ([] ++ wK C ad u72_2) H := hP
  have hD : va_D A ([] ++ wK C ad u72_2) := hD
  have hP9 : va_P D vwCl ([] ++ wK C ad u72_2) H := bd_P (lc := []) hP [] rfl
  have hD9 : va_D A ([] ++ wK C ad u72_2) := bd_D (lc := []) hD [] rfl (by decide)
  exact W.vret hx hb hr (fun t ht hW => ⟨⟨(u72_2), rfl, hwp, by rw [ht]; exact hP9, va_K.moved hW.alike hK, hD9⟩, hS.F ht⟩) hS.2.2 dL_feed_75

