/-! THE LAW BEHIND THE NEW DESK -/
theorem wx_566_0 : (Cond.methodLink RL 182 yL_load : Cond) ∈ WALL := wall_t (tw_3 _ (List.mem_of_getElem? (i := 52) (by decide +kernel))) rfl
theorem wx_567_0 : (Cond.static yL_load : Cond) ∈ WALL := wall_t (tw_3 _ (List.mem_of_getElem? (i := 53) (by decide +kernel))) rfl
theorem wx_1010_0 : (Cond.methodLink RL 185 yL_points : Cond) ∈ WALL := wall_t (tw_5 _ (List.mem_of_getElem? (i := 16) (by decide +kernel))) rfl
theorem wx_1011_0 : (Cond.static yL_points : Cond) ∈ WALL := wall_t (tw_5 _ (List.mem_of_getElem? (i := 17) (by decide +kernel))) rfl
theorem wx_535_0 : (Cond.methodLink RL 188 yX10_setCapacity : Cond) ∈ WALL := wall_t (tw_3 _ (List.mem_of_getElem? (i := 21) (by decide +kernel))) rfl
theorem wx_536_0 : (Cond.instanceMethod yX10_setCapacity : Cond) ∈ WALL := wall_t (tw_3 _ (List.mem_of_getElem? (i := 22) (by decide +kernel))) rfl
theorem wx_537_0 : (Cond.selects RX10 yX10_setCapacity yX10_setCapacity : Cond) ∈ WALL := wall_t (tw_3 _ (List.mem_of_getElem? (i := 23) (by decide +kernel))) rfl
theorem wx_64_0 : (Cond.classLink RL 25 RX10 : Cond) ∈ WALL := wall_t (tw_1 _ (List.mem_of_getElem? (i := 30) (by decide +kernel))) rfl
theorem wx_65_0 : (Cond.instantiable RX10 19 : Cond) ∈ WALL := wall_t (tw_1 _ (List.mem_of_getElem? (i := 31) (by decide +kernel))) rfl
theorem wx_66_0 : (Cond.methodLink RL 181 yX10_init : Cond) ∈ WALL := wall_t (tw_1 _ (List.mem_of_getElem? (i := 32) (by decide +kernel))) rfl
theorem wx_67_0 : (Cond.instanceMethod yX10_init : Cond) ∈ WALL := wall_t (tw_1 _ (List.mem_of_getElem? (i := 33) (by decide +kernel))) rfl
theorem gc_L_182 : GoodIn WALL (va_wsS RL 182 yL_load ws_L_load) := gc_s wx_566_0 wx_567_0 wd_34 wd_568
theorem gc_L_185 : GoodIn WALL (va_wsS RL 185 yL_points ws_L_points) := gc_s wx_1010_0 wx_1011_0 wd_34 wd_1012
theorem gc_L_188 : GoodIn WALL (wsV RL 188 RX10 yX10_setCapacity ws_X10_setCapacity) := gc_v wx_535_0 wx_536_0 wx_537_0 wd_35 wd_538
theorem gc_X10_init : GoodIn WALL ws_X10_init := gc_0 wd_68
set_option maxHeartbeats 4000000 in
set_option maxRecDepth 100000 in
theorem law_rest {p : Program} {l : Launch} {e : Env} {s : State} {m : MethodId} {below : List Frame} {meth : Method} {c : Code} {b L : Nat} {xs : Nat → Int32} (hst : l.stackTraces = false) (hL : L ≤ 260) (hx : p.tables.exec = Jvm.exec) (hb : c.code = cL_law) (hr : meth.sig.returnType = ret) (hml : c.maxLocals = 3) (hown : s.vm.findClass RL = some m.cls) (hts : ∀ w ∈ WALL, w.before #[Value.ref b] s = true) (hs : ScrC L xs b (lw_sA s) s s.heap) (hlocks : meth.locks = false) {D : va_G} {C : Nat → ClassId} (hK : va_K D vwCl (tyL C) s) (hT : TX (lw_sA s) s s.heap) {ad : Nat → Nat} {d : DT} {s0 : Nat → Nat} {by0 : Nat → Int} {cc pp : Int} (hI : IV s0 0 by0 cc pp d) {H : Heap} {locs : List Loc} {ls : Array Slot} (hl : lv_has ls 3 [(1, .ref (ad 0)), (0, .ref b)]) (hP : va_P D vwCl ([] ++ wK C ad d) H) (hD : va_D (lw_sA s) ([] ++ wK C ad d)) (hS : va_S (lw_sA s) s.heap H locs) : W p l e room_1 s m #[Value.ref b] below meth c H locs 113 76519 (lw_Z below #[Value.ref b] s) (F0 m 8 ls []) := by
  have hA : ∀ q : Nat, s.heap.size ≤ q → lw_sA s q := fun _ h => h
  refine lv_aload_n hx hb dL_law_8 rfl (lv_at hl 0 rfl) ?_
  refine lv_aload_n hx hb dL_law_9 rfl (lv_at hl 1 rfl) ?_
  have hwp : wp_L_load L xs d (fun r d => r = 1 ∧ ∃ (st : Nat → Nat) (by2 : Nat → Int), st 0 ≤ 7 ∧ IV st 0 by2 0 (-1) d) := sL_load (by omega) hI (fun st by2 d2 h7 h => ⟨rfl, st, by2, h7, h⟩)
  have hPc : va_P D vwCl ([] ++ wK C ad d) H := bd_P (lc := []) hP [] rfl
  have hDc : va_D (lw_sA s) ([] ++ wK C ad d) := bd_D (lc := []) hD [] rfl (by decide)
  have hFc : ∀ q, va_A ([] ++ wK C ad d) H.size q → lw_sA s q := bd_free (lc := []) hD hS hA [] rfl
  refine va_calli (va_runS (As := [.ref (ad 0), .ref b]) (rest := []) ⟨hx, hb, hml, hown, hts⟩ (met_L_load l hst D C ad b L xs d H.size _ hwp) (va_cwS 2 hts gc_L_182 rfl rfl rfl (by decide +kernel) ⟨Nat.le_of_ble_eq_true rfl, Nat.le_of_ble_eq_true rfl⟩) ⟨fun a U g mk q => by obtain ⟨q0, q1, qP, qK, qD, qT, qS⟩ := q; exact ⟨q0, q1, qP, va_K.moved (u := U) (U := U.calling g mk a) (Vm.Alike.refl U.vm) qK, qD, qT.mv (U := U.calling g mk a) (State.WarmedH.refl U), qS.moved (U := U.calling g mk a) (Vm.Alike.refl U.vm)⟩, fun U hU hW => ⟨rfl, by rw [hU], by rw [hU]; exact hPc, va_K.moved hW.alike hK, hDc.weaken (fun _ _ _ _ => trivial), hT.call hS hFc hU hW, hs.call hS hFc hU hW⟩⟩ rfl rfl hl.1 rfl (lv_room (Nat.le_of_ble_eq_true rfl)) dL_law_10 ⟨Nat.le_of_ble_eq_true rfl, Nat.le_of_ble_eq_true rfl⟩) hS (fun q _ h => hFc q h) hFc (fun r10 u t H1 locs ht hvm hq hB hz1 hk1 hS => ?_)
  obtain ⟨d1, rfl⟩ : ∃ z, z = u := ⟨_, rfl⟩
  obtain ⟨hP1, -, hD1⟩ := hB
  rw [ht] at hP1
  obtain ⟨hP, hD⟩ := bd_join (lr := []) (l1 := []) (b1 := wK C ad d1) hP hD [] [] rfl rfl (by decide) (by decide) hk1 hFc hP1 hD1
  generalize H1 = H at hP hS ⊢
  have hP : va_P D vwCl ([] ++ wK C ad d1) H := hP
  have hD : va_D (lw_sA s) ([] ++ wK C ad d1) := hD
  obtain ⟨e10, st, by2, h7, hI⟩ := hq
  refine lv_if_eq (tgt := 23) hx hb dL_law_13 (by decide) (fun c_ => absurd c_ (by rw [e10]; decide)) (fun _ => ?_)
  refine lv_aload_n hx hb dL_law_16 rfl (lv_at hl 0 rfl) ?_
  have hwp : wp_L_points d1 (fun r d => r = 1 ∧ IV st 0 by2 0 (-1) d) := sL_points h7 hI (fun d h => ⟨rfl, h⟩)
  have hPc : va_P D vwCl ([] ++ wK C ad d1) H := bd_P (lc := []) hP [] rfl
  have hDc : va_D (lw_sA s) ([] ++ wK C ad d1) := bd_D (lc := []) hD [] rfl (by decide)
  have hFc : ∀ q, va_A ([] ++ wK C ad d1) H.size q → lw_sA s q := bd_free (lc := []) hD hS hA [] rfl
  refine va_calli (va_runS (As := [.ref (ad 0)]) (rest := []) ⟨hx, hb, hml, hown, hts⟩ (met_L_points l hst D C ad d1 H.size _ hwp) (va_cwS 1 hts gc_L_185 rfl rfl rfl (by decide +kernel) ⟨Nat.le_of_ble_eq_true rfl, Nat.le_of_ble_eq_true rfl⟩) ⟨fun a U g mk q => by obtain ⟨q0, q1, qP, qK, qD, qT⟩ := q; exact ⟨q0, q1, qP, va_K.moved (u := U) (U := U.calling g mk a) (Vm.Alike.refl U.vm) qK, qD, qT.mv (U := U.calling g mk a) (State.WarmedH.refl U)⟩, fun U hU hW => ⟨rfl, by rw [hU], by rw [hU]; exact hPc, va_K.moved hW.alike hK, hDc.weaken (fun _ _ _ _ => trivial), hT.call hS hFc hU hW⟩⟩ rfl rfl hl.1 rfl (lv_room (Nat.le_of_ble_eq_true rfl)) dL_law_17 ⟨Nat.le_of_ble_eq_true rfl, Nat.le_of_ble_eq_true rfl⟩) hS (fun q _ h => hFc q h) hFc (fun r17 u t H1 locs ht hvm hq hB hz1 hk1 hS => ?_)
  obtain ⟨d2, rfl⟩ : ∃ z, z = u := ⟨_, rfl⟩
  obtain ⟨hP1, -, hD1⟩ := hB
  rw [ht] at hP1
  obtain ⟨hP, hD⟩ := bd_join (lr := []) (l1 := []) (b1 := wK C ad d2) hP hD [] [] rfl rfl (by decide) (by decide) hk1 hFc hP1 hD1
  generalize H1 = H at hP hS ⊢
  have hP : va_P D vwCl ([] ++ wK C ad d2) H := hP
  have hD : va_D (lw_sA s) ([] ++ wK C ad d2) := hD
  obtain ⟨e17, hI⟩ := hq
  refine lv_if_ne (tgt := 25) hx hb dL_law_20 (by decide) (fun _ => ?_) (fun c_ => absurd c_ (by rw [e17]; decide))
  refine lv_aload_n hx hb dL_law_25 rfl (lv_at hl 0 rfl) ?_
  refine lv_iconst (v := 1) hx hb dL_law_26 (by decide) ?_
  have hwp : wpK_X10_property (1 : Int32) d2 (fun r d => r = iI (st 1 : Nat) ∧ IV st 0 by2 0 (-1) d) := sN_property (k := 1) hI (by omega) ⟨rfl, hI⟩
  have hPc : va_P D vwCl ([] ++ wK C ad d2) H := bd_P (lc := []) hP [] rfl
  have hDc : va_D (lw_sA s) ([] ++ wK C ad d2) := bd_D (lc := []) hD [] rfl (by decide)
  have hFc : ∀ q, va_A ([] ++ wK C ad d2) H.size q → lw_sA s q := bd_free (lc := []) hD hS hA [] rfl
  refine va_calli (va_runV (As := [.int (1 : Int32)]) (rest := []) ⟨hx, hb, hml, hown, hts⟩ (mk_X10_property l hst D C ad (1 : Int32) d2 H.size _ hwp) (cwV 1 hts gc_L_94 rfl rfl rfl (by decide +kernel) ⟨Nat.le_of_ble_eq_true rfl, Nat.le_of_ble_eq_true rfl⟩) ⟨fun a U g mk q => by obtain ⟨q0, q1, qP, qK, qD, qT⟩ := q; exact ⟨q0, q1, qP, va_K.moved (u := U) (U := U.calling g mk a) (Vm.Alike.refl U.vm) qK, qD, qT.mv (U := U.calling g mk a) (State.WarmedH.refl U)⟩, va_recv hK hPc (ci := 10) (q0 := 0) rfl rfl, fun U hU hW => ⟨rfl, by rw [hU], by rw [hU]; exact hPc, va_K.moved hW.alike hK, hDc.weaken (fun _ _ _ _ => trivial), hT.call hS hFc hU hW⟩⟩ rfl rfl hl.1 rfl (lv_room (Nat.le_of_ble_eq_true rfl)) dL_law_27 ⟨Nat.le_of_ble_eq_true rfl, Nat.le_of_ble_eq_true rfl⟩) hS (fun q _ h => hFc q h) hFc (fun r27 u t H1 locs ht hvm hq hB hz1 hk1 hS => ?_)
  obtain ⟨d3, rfl⟩ : ∃ z, z = u := ⟨_, rfl⟩
  obtain ⟨hP1, -, hD1⟩ := hB
  rw [ht] at hP1
  obtain ⟨hP, hD⟩ := bd_join (lr := []) (l1 := []) (b1 := wK C ad d3) hP hD [] [] rfl rfl (by decide) (by decide) hk1 hFc hP1 hD1
  generalize H1 = H at hP hS ⊢
  have hP : va_P D vwCl ([] ++ wK C ad d3) H := hP
  have hD : va_D (lw_sA s) ([] ++ wK C ad d3) := hD
  obtain ⟨e27, hI⟩ := hq
  refine lv_istore_n (lv' := [(2, .int r27), (1, .ref (ad 0)), (0, .ref b)]) hx hb dL_law_30 rfl hl (by decide) rfl (fun ls hl => ?_)
  refine lv_aload_n hx hb dL_law_31 rfl (lv_at hl 1 rfl) ?_
  refine lv_aload_n hx hb dL_law_32 rfl (lv_at hl 2 rfl) ?_
  refine lv_bipush (v := 60) hx hb dL_law_33 (by decide) ?_
  refine lv_bipush (v := 60) hx hb dL_law_35 (by decide) ?_
  have hwp : wp_L_draw (60 : Int32) (60 : Int32) L xs (fun r => ∃ v : Nat, v < 60 ∧ r = iI (v : Nat)) := sL_draw (k := 60) (n := 60) (by omega) (by omega) (by omega) (by omega) ⟨_, drw_lt (by omega), rfl⟩
  have hPc := hP.sub (ws' := []) [] rfl
  have hDc := hD.sub (ws' := []) [] (by decide) rfl
  have hFc := va_free (wc := []) hD hS hA [] rfl
  refine va_calli (va_runS (As := [.ref b, .int (60 : Int32), .int (60 : Int32)]) (rest := [.ref (ad 0)]) ⟨hx, hb, hml, hown, hts⟩ (met_L_draw l hst D C b (60 : Int32) (60 : Int32) L xs H.size _ hwp) (va_cwS 3 hts gc_L_40 rfl rfl rfl (by decide +kernel) ⟨Nat.le_of_ble_eq_true rfl, Nat.le_of_ble_eq_true rfl⟩) ⟨fun a U g mk q => by obtain ⟨q0, q1, qP, qK, qD, qT, qS⟩ := q; exact ⟨q0, q1, qP, va_K.moved (u := U) (U := U.calling g mk a) (Vm.Alike.refl U.vm) qK, qD, qT.mv (U := U.calling g mk a) (State.WarmedH.refl U), qS.moved (U := U.calling g mk a) (Vm.Alike.refl U.vm)⟩, fun U hU hW => ⟨rfl, by rw [hU], by rw [hU]; exact hPc, va_K.moved hW.alike hK, hDc.weaken (fun _ _ _ _ => trivial), hT.call hS hFc hU hW, hs.call hS hFc hU hW⟩⟩ rfl rfl hl.1 rfl (lv_room (Nat.le_of_ble_eq_true rfl)) dL_law_37 ⟨Nat.le_of_ble_eq_true rfl, Nat.le_of_ble_eq_true rfl⟩) hS (fun q _ h => hFc q h) hFc (fun r37 u t H1 locs ht hvm hq hB hz1 hk1 hS => ?_)
  obtain ⟨hP1, -, hD1⟩ := hB
  rw [ht] at hP1
  obtain ⟨hP, hD⟩ := bd_joinL (lr := []) (l1 := []) hP hD [] [] rfl rfl (by decide) (by decide) hk1 hFc hP1 hD1
  generalize H1 = H at hP hS ⊢
  have hP : va_P D vwCl ([] ++ wK C ad d3) H := hP
  have hD : va_D (lw_sA s) ([] ++ wK C ad d3) := hD
  obtain ⟨v37, l37, e37⟩ := hq
  subst e37
  have hwp : wpK_X10_setCapacity (iI (v37 : Nat)) d3 (fun r d => r = iI (st 1 : Nat) ∧ IV (su st 1 v37) 0 by2 0 (-1) d) := sN_setCapacity hI (by omega) (fun d h => ⟨rfl, h⟩)
  have hPc : va_P D vwCl ([] ++ wK C ad d3) H := bd_P (lc := []) hP [] rfl
  have hDc : va_D (lw_sA s) ([] ++ wK C ad d3) := bd_D (lc := []) hD [] rfl (by decide)
  have hFc : ∀ q, va_A ([] ++ wK C ad d3) H.size q → lw_sA s q := bd_free (lc := []) hD hS hA [] rfl
  refine va_calli (va_runV (As := [.int (iI (v37 : Nat))]) (rest := []) ⟨hx, hb, hml, hown, hts⟩ (mk_X10_setCapacity l hst D C ad (iI (v37 : Nat)) d3 H.size _ hwp) (cwV 1 hts gc_L_188 rfl rfl rfl (by decide +kernel) ⟨Nat.le_of_ble_eq_true rfl, Nat.le_of_ble_eq_true rfl⟩) ⟨fun a U g mk q => by obtain ⟨q0, q1, qP, qK, qD, qT⟩ := q; exact ⟨q0, q1, qP, va_K.moved (u := U) (U := U.calling g mk a) (Vm.Alike.refl U.vm) qK, qD, qT.mv (U := U.calling g mk a) (State.WarmedH.refl U)⟩, va_recv hK hPc (ci := 10) (q0 := 0) rfl rfl, fun U hU hW => ⟨rfl, by rw [hU], by rw [hU]; exact hPc, va_K.moved hW.alike hK, hDc.weaken (fun _ _ _ _ => trivial), hT.call hS hFc hU hW⟩⟩ rfl rfl hl.1 rfl (lv_room (Nat.le_of_ble_eq_true rfl)) dL_law_40 ⟨Nat.le_of_ble_eq_true rfl, Nat.le_of_ble_eq_true rfl⟩) hS (fun q _ h => hFc q h) hFc (fun r40 u t H1 locs ht hvm hq hB hz1 hk1 hS => ?_)
  obtain ⟨d4, rfl⟩ : ∃ z, z = u := ⟨_, rfl⟩
  obtain ⟨hP1, -, hD1⟩ := hB
  rw [ht] at hP1
  obtain ⟨hP, hD⟩ := bd_join (lr := []) (l1 := []) (b1 := wK C ad d4) hP hD [] [] rfl rfl (by decide) (by decide) hk1 hFc hP1 hD1
  generalize H1 = H at hP hS ⊢
  have hP : va_P D vwCl ([] ++ wK C ad d4) H := hP
  have hD : va_D (lw_sA s) ([] ++ wK C ad d4) := hD
  obtain ⟨e40, hI⟩ := hq
  refine lv_iload_n hx hb dL_law_43 rfl (lv_at hl 0 rfl) ?_
  refine lv_icmp_ne (tgt := 58) hx hb dL_law_44 (by decide) (fun c_ => absurd (by rw [e40, e27]) c_) (fun _ => ?_)
  refine lv_aload_n hx hb dL_law_47 rfl (lv_at hl 1 rfl) ?_
  have hwp : wp_L_points d4 (fun r d => r = 1 ∧ IV (su st 1 v37) 0 by2 0 (-1) d) := sL_points (by rw [su_ne (by omega)]; exact h7) hI (fun d h => ⟨rfl, h⟩)
  have hPc : va_P D vwCl ([] ++ wK C ad d4) H := bd_P (lc := []) hP [] rfl
  have hDc : va_D (lw_sA s) ([] ++ wK C ad d4) := bd_D (lc := []) hD [] rfl (by decide)
  have hFc : ∀ q, va_A ([] ++ wK C ad d4) H.size q → lw_sA s q := bd_free (lc := []) hD hS hA [] rfl
  refine va_calli (va_runS (As := [.ref (ad 0)]) (rest := []) ⟨hx, hb, hml, hown, hts⟩ (met_L_points l hst D C ad d4 H.size _ hwp) (va_cwS 1 hts gc_L_185 rfl rfl rfl (by decide +kernel) ⟨Nat.le_of_ble_eq_true rfl, Nat.le_of_ble_eq_true rfl⟩) ⟨fun a U g mk q => by obtain ⟨q0, q1, qP, qK, qD, qT⟩ := q; exact ⟨q0, q1, qP, va_K.moved (u := U) (U := U.calling g mk a) (Vm.Alike.refl U.vm) qK, qD, qT.mv (U := U.calling g mk a) (State.WarmedH.refl U)⟩, fun U hU hW => ⟨rfl, by rw [hU], by rw [hU]; exact hPc, va_K.moved hW.alike hK, hDc.weaken (fun _ _ _ _ => trivial), hT.call hS hFc hU hW⟩⟩ rfl rfl hl.1 rfl (lv_room (Nat.le_of_ble_eq_true rfl)) dL_law_48 ⟨Nat.le_of_ble_eq_true rfl, Nat.le_of_ble_eq_true rfl⟩) hS (fun q _ h => hFc q h) hFc (fun r48 u t H1 locs ht hvm hq hB hz1 hk1 hS => ?_)
  obtain ⟨d5, rfl⟩ : ∃ z, z = u := ⟨_, rfl⟩
  obtain ⟨hP1, -, hD1⟩ := hB
  rw [ht] at hP1
  obtain ⟨hP, hD⟩ := bd_join (lr := []) (l1 := []) (b1 := wK C ad d5) hP hD [] [] rfl rfl (by decide) (by decide) hk1 hFc hP1 hD1
  generalize H1 = H at hP hS ⊢
  have hP : va_P D vwCl ([] ++ wK C ad d5) H := hP
  have hD : va_D (lw_sA s) ([] ++ wK C ad d5) := hD
  obtain ⟨e48, -⟩ := hq
  refine lv_if_eq (tgt := 58) hx hb dL_law_51 (by decide) (fun c_ => absurd c_ (by rw [e48]; decide)) (fun _ => ?_)
  refine lv_iconst (v := 1) hx hb dL_law_54 (by decide) ?_
  refine lv_goto (tgt := 59) hx hb dL_law_55 (by decide) ?_
  refine va_forget (fun q hq => hS.2.2 q hq) ?_
  refine W.widen (k := 600086) (n := 7301442) (Nat.le_of_ble_eq_true rfl) (Nat.le_of_ble_eq_true rfl) ?_
  exact lw_ret (d0 := s.drawn) (Drawn.sameBut.refl s.drawn lw_cs) hx hb hr hlocks dL_law_59
