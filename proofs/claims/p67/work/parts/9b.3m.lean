abbrev ws_J5_init_a7421 : List Cond := .code yJ5_init_a7421 cJ5_init_a7421 5 none :: WALL
theorem gc_J5_43 : GoodIn WALL (va_wsO RJ5 43 RJ4 "java/lang/AbstractStringBuilder" ⟨"java/lang/AbstractStringBuilder", "append", "(Ljava/lang/String;)Ljava/lang/AbstractStringBuilder;"⟩ yJ4_append_cf1ce ws_J4_append_cf1ce) := gc_o wx_599_0 wd_601 wx_600_0 wx_602_0 wd_603 wd_47 wx_604_0
abbrev rm_J5_init_a7421 (mc ms : Nat) : Room := { frames := 7, cells := mc, slots := ms, locals := 173 }
abbrev w_J5_init_a7421 (C : Nat → ClassId) (q : Nat) (q1 : Nat) (t1_bs : List Int32) : va_W := [(q, .inr (12, [.null, .int 0, .int 0, .int 0]))]
abbrev wo_J5_init_a7421 (C : Nat → ClassId) (q : Nat) (q1 : Nat) (t1_bs : List Int32) (tp : Nat) (tn : Nat) (tf : Nat → Int32) (tc : Int32) (tl : Int32) : va_W := [(q, .inr (12, [.ref tp, .int 0, .int tl, .int tc])), (tp, .inl (C 1, tn, .inl tf))]
abbrev q_J5_init_a7421 (D : va_G) (C : Nat → ClassId) (q : Nat) (q1 : Nat) (t1_bs : List Int32) (Q : Nat → Nat → (Nat → Int32) → Int32 → Int32 → Prop) (A : Nat → Prop) : Array Value → State → Outcome → State → Prop := va_Qv (fun (u : Nat × Nat × (Nat → Int32) × Int32 × Int32) => Q u.1 u.2.1 u.2.2.1 u.2.2.2.1 u.2.2.2.2) (fun (u : Nat × Nat × (Nat → Int32) × Int32 × Int32) (t : State) => va_P D vwCl (wo_J5_init_a7421 C q q1 t1_bs u.1 u.2.1 u.2.2.1 u.2.2.2.1 u.2.2.2.2) t.heap ∧ va_K D vwCl (tyL C) t ∧ va_D A (wo_J5_init_a7421 C q q1 t1_bs u.1 u.2.1 u.2.2.1 u.2.2.2.1 u.2.2.2.2)) A
set_option maxHeartbeats 4000000 in
set_option maxRecDepth 100000 in
theorem met_J5_init_a7421 (l : Launch) (hst : l.stackTraces = false) (D : va_G) (C : Nat → ClassId) (q : Nat) (q1 : Nat) (t1_bs : List Int32) (mc : Nat) (ms : Nat) (sz : Nat) (Q : Nat → Nat → (Nat → Int32) → Int32 → Int32 → Prop) (hwp : wp_J5_init_a7421 t1_bs mc ms Q) : Met l yJ5_init_a7421 ws_J5_init_a7421 (rm_J5_init_a7421 mc ms) (va_Pc [.ref q, .ref q1] (fun U => U.heap.size = sz ∧ va_P D vwCl (w_J5_init_a7421 C q q1 t1_bs) U.heap ∧ va_K D vwCl (tyL C) U ∧ va_D (fun _ => True) (w_J5_init_a7421 C q q1 t1_bs) ∧ TX (va_A (w_J5_init_a7421 C q q1 t1_bs) sz) U U.heap ∧ StrC t1_bs q1 (va_A (w_J5_init_a7421 C q q1 t1_bs) sz) U U.heap)) (q_J5_init_a7421 D C q q1 t1_bs Q (va_A (w_J5_init_a7421 C q q1 t1_bs) sz)) mc ms (va_A (w_J5_init_a7421 C q q1 t1_bs) sz) := by
  refine Met.ofW (cc := cJ5_init_a7421) (maxL := 5) (ret := none) (by decide) rfl ?_
  intro p e s m args below meth c s₁ B hml hv
  obtain ⟨rfl, hsz, hP, hK, hD0, hT, hs_q1⟩ := hv
  have hx := B.exec
  have hb := B.bytes
  have hr := B.returns
  have hts : ∀ w ∈ WALL, w.before _ s = true := fun w h => atoms_spec (ws := ws_J5_init_a7421) B.pre w (List.mem_cons_of_mem _ h)
  have hown : s.vm.findClass RJ5 = some m.cls := findClass_of_methodNamed B.named
  have hlocks := B.notSynchronized
  subst hsz
  have hD := hD0.self (sz := s.heap.size)
  generalize hAe : va_A (w_J5_init_a7421 C q q1 t1_bs) s.heap.size = A at hD ⊢ hT hs_q1
  have hA : ∀ q : Nat, s.heap.size ≤ q → A q := fun q h => by rw [← hAe]; exact Or.inr h
  have hS : va_S A s.heap s.heap [] := va_S.rf
  have hl := lv_entry ([.ref q, .ref q1]) (n := 5) (Nat.le_of_ble_eq_true rfl)
  rw [lg_entry_eq]
  generalize (lg_sl ([.ref q, .ref q1]) ++ List.replicate (5 - (lg_sl ([.ref q, .ref q1])).length) Slot.unset).toArray = ls at hl ⊢
  have hl : lv_has ls 5 [(0, .ref q), (1, .ref q1)] := hl
  unfold wp_J5_init_a7421 at hwp
  obtain ⟨H, hH⟩ : ∃ H, H = s.heap := ⟨_, rfl⟩
  obtain ⟨locs, hlo⟩ : ∃ z : List Loc, z = [] := ⟨_, rfl⟩
  have hP : va_P D vwCl [(q, .inr (12, [.null, .int 0, .int 0, .int 0]))] H := by rw [hH]; exact hP
  have hD : va_D A [(q, .inr (12, [.null, .int 0, .int 0, .int 0]))] := hD
  have hS : va_S A s.heap H locs := by rw [hH, hlo]; exact hS
  suffices K : W p l e (headSpec ws_J5_init_a7421 (rm_J5_init_a7421 mc ms)).room s m ([.ref q, .ref q1] : List Value).toArray below meth c H locs 0 0 (MQ below (q_J5_init_a7421 D C q q1 t1_bs Q A) ([.ref q, .ref q1] : List Value).toArray s mc ms A) (F0 m 0 ls []) from by rw [hH, hlo] at K; exact K
  refine lv_aload_n hx hb dJ5_init_a7421_0 rfl (lv_at hl 0 rfl) ?_
  refine W.objInit hx hb hown (hts (.methodLink RJ5 3 objectInit) wd_578) (hts (.instanceMethod objectInit) wd_70) (hts (.code objectInit ⟨#[0xb1]⟩ 1 none) wd_71) rfl (by rw [hml]; exact hl.1) rfl dJ5_init_a7421_1 (Nat.le_of_ble_eq_true rfl) (Nat.le_of_ble_eq_true rfl) ?_
  show W p l e (headSpec ws_J5_init_a7421 (rm_J5_init_a7421 mc ms)).room s m ([.ref q, .ref q1] : List Value).toArray below meth c H locs 0 0 (MQ below (q_J5_init_a7421 D C q q1 t1_bs Q A) ([.ref q, .ref q1] : List Value).toArray s mc ms A) (F0 m 4 ls [])
  refine lv_aload_n hx hb dJ5_init_a7421_4 rfl (lv_at hl 1 rfl) ?_
  have hPc := hP.sub (ws' := []) [] rfl
  have hDc := hD.sub (ws' := []) [] (by decide) rfl
  have hFc := va_free (wc := []) hD hS hA [] rfl
  obtain ⟨hbk, hwp⟩ := hwp
  refine va_calli (va_runV (As := []) (rest := []) ⟨hx, hb, hml, hown, hts⟩ (met_J0_length_8abf5 l hst D C q1 t1_bs H.size _ hwp) (cwV 0 hts gc_J5_32 rfl rfl rfl (by decide +kernel) ⟨Nat.le_of_ble_eq_true rfl, Nat.le_of_ble_eq_true rfl⟩) ⟨fun a U g mk q => by obtain ⟨q0, q1, qP, qK, qD, qT, qS_q⟩ := q; exact ⟨q0, q1, qP, va_K.moved (u := U) (U := U.calling g mk a) (Vm.Alike.refl U.vm) qK, qD, qT.mv (U := U.calling g mk a) (State.WarmedH.refl U), qS_q.moved (U := U.calling g mk a) (Vm.Alike.refl U.vm)⟩, hs_q1.recv hS, fun U hU hW => ⟨rfl, by rw [hU], by rw [hU]; exact hPc, va_K.moved hW.alike hK, hDc.weaken (fun _ _ _ _ => trivial), hT.call hS hFc hU hW, hs_q1.call hS hFc hU hW⟩⟩ rfl rfl hl.1 rfl (lv_room (Nat.le_of_ble_eq_true rfl)) dJ5_init_a7421_5 ⟨hbk.1, hbk.2⟩) hS (fun q _ h => hFc q h) hFc (fun r5 u t H1 locs ht hvm hwp hB hz1 hk1 hS => ?_)
  obtain ⟨hP1, -, hD1⟩ := hB
  rw [ht] at hP1
  obtain ⟨hP, hD⟩ := va_join (wr := [(q, .inr (12, [.null, .int 0, .int 0, .int 0]))]) (w1 := []) hP hD [] [0] rfl rfl (by decide) (by decide) hk1 hFc hP1 hD1
  generalize H1 = H at hP hS ⊢
  have hP : va_P D vwCl [(q, .inr (12, [.null, .int 0, .int 0, .int 0]))] H := hP
  have hD : va_D A [(q, .inr (12, [.null, .int 0, .int 0, .int 0]))] := hD
  refine lv_istore_n (lv' := [(2, .int r5), (0, .ref q), (1, .ref q1)]) hx hb dJ5_init_a7421_8 rfl hl (by decide) rfl (fun ls hl => ?_)
  refine lv_iload_n hx hb dJ5_init_a7421_9 rfl (lv_at hl 0 rfl) ?_
  refine lv_ldc (own := RJ5) (index := 38) (v := 2147483631) hx hb hown (hts (.constant RJ5 38 (2147483631)) wd_589) dJ5_init_a7421_10 ?_
  refine lv_icmp_ge (tgt := 22) hx hb dJ5_init_a7421_12 (by decide) (fun c12 => ?_) (fun c12 => ?_)
  · have hwp := hwp.1 c12
    exact False.elim hwp
  · have hwp := hwp.2 c12
    refine lv_iload_n hx hb dJ5_init_a7421_15 rfl (lv_at hl 0 rfl) ?_
    refine lv_bipush (v := 16) hx hb dJ5_init_a7421_16 (by decide) ?_
    refine lv_iadd hx hb dJ5_init_a7421_18 ?_
    refine lv_goto (tgt := 24) hx hb dJ5_init_a7421_19 (by decide) ?_
    refine lv_topi (fun v24 ev24 => ?_)
    have hwp := hwp v24 ev24
    refine lv_istore_n (lv' := [(3, .int v24), (2, .int r5), (0, .ref q), (1, .ref q1)]) hx hb dJ5_init_a7421_24 rfl hl (by decide) rfl (fun ls hl => ?_)
    refine lv_aload_n hx hb dJ5_init_a7421_25 rfl (lv_at hl 3 rfl) ?_
    have hPc := hP.sub (ws' := []) [] rfl
    have hDc := hD.sub (ws' := []) [] (by decide) rfl
    have hFc := va_free (wc := []) hD hS hA [] rfl
    obtain ⟨hbk, hwp⟩ := hwp
    refine va_calli (va_runV (As := []) (rest := []) ⟨hx, hb, hml, hown, hts⟩ (met_J0_coder_7d493 l hst D C q1 t1_bs H.size (fun r => r = (0 : Int32)) rfl) (cwV 0 hts gc_J5_40 rfl rfl rfl (by decide +kernel) ⟨Nat.le_of_ble_eq_true rfl, Nat.le_of_ble_eq_true rfl⟩) ⟨fun a U g mk q => by obtain ⟨q0, q1, qP, qK, qD, qT, qS_q⟩ := q; exact ⟨q0, q1, qP, va_K.moved (u := U) (U := U.calling g mk a) (Vm.Alike.refl U.vm) qK, qD, qT.mv (U := U.calling g mk a) (State.WarmedH.refl U), qS_q.moved (U := U.calling g mk a) (Vm.Alike.refl U.vm)⟩, hs_q1.recv hS, fun U hU hW => ⟨rfl, by rw [hU], by rw [hU]; exact hPc, va_K.moved hW.alike hK, hDc.weaken (fun _ _ _ _ => trivial), hT.call hS hFc hU hW, hs_q1.call hS hFc hU hW⟩⟩ rfl rfl hl.1 rfl (lv_room (Nat.le_of_ble_eq_true rfl)) dJ5_init_a7421_26 ⟨hbk.1, hbk.2⟩) hS (fun q _ h => hFc q h) hFc (fun r26 u t H1 locs ht hvm hwc hB hz1 hk1 hS => ?_)
    obtain rfl := hwc
    obtain ⟨hP1, -, hD1⟩ := hB
    rw [ht] at hP1
    obtain ⟨hP, hD⟩ := va_join (wr := [(q, .inr (12, [.null, .int 0, .int 0, .int 0]))]) (w1 := []) hP hD [] [0] rfl rfl (by decide) (by decide) hk1 hFc hP1 hD1
    generalize H1 = H at hP hS ⊢
    have hP : va_P D vwCl [(q, .inr (12, [.null, .int 0, .int 0, .int 0]))] H := hP
    have hD : va_D A [(q, .inr (12, [.null, .int 0, .int 0, .int 0]))] := hD
    refine lv_istore (lv' := [(4, .int (0 : Int32)), (3, .int v24), (2, .int r5), (0, .ref q), (1, .ref q1)]) hx hb dJ5_init_a7421_29 hl (by decide) rfl (fun ls hl => ?_)
    refine lv_aload_n hx hb dJ5_init_a7421_31 rfl (lv_at hl 3 rfl) ?_
    refine lv_iload hx hb dJ5_init_a7421_32 (lv_at hl 0 rfl) ?_
    refine va_put (D := D) (ci := 12) (v := .int (0 : Int32)) (ty := .byte) (C := RJ4) (T := TJ4) (N := 4) hx hb hts iwJ4 tyJ4 tyJ4_ok nmJ4 hown hK hP hD hS 0 rfl rfl 1 (by decide) (hts (.fieldLink RJ5 22 "java/lang/AbstractStringBuilder" "coder" "B") wd_714) (fun _ h9 => h9) rfl (by decide +kernel) rfl rfl (Nat.le_of_ble_eq_true rfl) dJ5_init_a7421_34 (fun H locs hP hD hS => ?_)
    have hP : va_P D vwCl [(q, .inr (12, [.null, .int (0 : Int32), .int 0, .int 0]))] H := hP
    have hD : va_D A [(q, .inr (12, [.null, .int (0 : Int32), .int 0, .int 0]))] := hD
    refine lv_aload_n hx hb dJ5_init_a7421_37 rfl (lv_at hl 3 rfl) ?_
    refine lv_iload hx hb dJ5_init_a7421_38 (lv_at hl 0 rfl) ?_
    refine lv_if_ne (tgt := 49) hx hb dJ5_init_a7421_40 (by decide) (fun c40 => ?_) (fun c40 => ?_)
    · exact absurd c40 (by decide)
    · refine lv_iload_n hx hb dJ5_init_a7421_43 rfl (lv_at hl 1 rfl) ?_
      obtain ⟨hnn, hwp⟩ := hwp
      obtain ⟨hbk, hwp⟩ := hwp
      refine va_newa (atype := .byte) (N' := v24.toNatClampNeg) (a0 := (v24.toNatClampNeg, .inl (fun _ => 0))) hx hb (hts (.arrayClass .byte) wd_145) rfl hK hP hD hS hA (fun cA => rfl) hnn.1 rfl (by have := hnn.2; show _ * 1 ≤ _; omega) hbk.1 hbk.2 dJ5_init_a7421_44 (fun a44 cA H hK1 hP hD hS => ?_)
      obtain rfl : cA = C 1 := Option.some.inj ((hK1.2 4 _ rfl).2.symm.trans (hK.2 1 _ rfl).2)
      clear hK1
      have hP : va_P D vwCl [(q, .inr (12, [.null, .int (0 : Int32), .int 0, .int 0])), (a44, .inl (C 1, v24.toNatClampNeg, .inl (fun _ => 0)))] H := hP
      have hD : va_D A [(q, .inr (12, [.null, .int (0 : Int32), .int 0, .int 0])), (a44, .inl (C 1, v24.toNatClampNeg, .inl (fun _ => 0)))] := hD
      have hwp := hwp a44
      refine lv_goto (tgt := 53) hx hb dJ5_init_a7421_46 (by decide) ?_
      refine va_put (D := D) (ci := 12) (v := .ref a44) (ty := (.array .byte)) (C := RJ4) (T := TJ4) (N := 4) hx hb hts iwJ4 tyJ4 tyJ4_ok nmJ4 hown hK hP hD hS 0 rfl rfl 0 (by decide) (hts (.fieldLink RJ5 15 "java/lang/AbstractStringBuilder" "value" "[B") wd_713) (fun _ h9 => h9) rfl (by decide +kernel) rfl rfl (Nat.le_of_ble_eq_true rfl) dJ5_init_a7421_53 (fun H locs hP hD hS => ?_)
      have hP : va_P D vwCl [(q, .inr (12, [.ref a44, .int (0 : Int32), .int 0, .int 0])), (a44, .inl (C 1, v24.toNatClampNeg, .inl (fun _ => 0)))] H := hP
      have hD : va_D A [(q, .inr (12, [.ref a44, .int (0 : Int32), .int 0, .int 0])), (a44, .inl (C 1, v24.toNatClampNeg, .inl (fun _ => 0)))] := hD
      refine lv_aload_n hx hb dJ5_init_a7421_56 rfl (lv_at hl 3 rfl) ?_
      refine lv_aload_n hx hb dJ5_init_a7421_57 rfl (lv_at hl 4 rfl) ?_
      have hPc := hP.sub (ws' := [(q, .inr (12, [.ref a44, .int (0 : Int32), .int 0, .int 0])), (a44, .inl (C 1, v24.toNatClampNeg, .inl (fun _ => 0)))]) [0, 1] rfl
      have hDc := hD.sub (ws' := [(q, .inr (12, [.ref a44, .int (0 : Int32), .int 0, .int 0])), (a44, .inl (C 1, v24.toNatClampNeg, .inl (fun _ => 0)))]) [0, 1] (by decide) rfl
      have hFc := va_free (wc := [(q, .inr (12, [.ref a44, .int (0 : Int32), .int 0, .int 0])), (a44, .inl (C 1, v24.toNatClampNeg, .inl (fun _ => 0)))]) hD hS hA [0, 1] rfl
      obtain ⟨mb58, sb58, hbk, hwp⟩ := hwp
      refine va_callr (va_runU (As := [.ref q1]) (rest := []) ⟨hx, hb, hml, hown, hts⟩ (met_J4_append_cf1ce l hst D C q q1 t1_bs a44 v24.toNatClampNeg (fun _ => 0) 0 0 mb58 sb58 H.size _ hwp) (va_cwO 1 hts gc_J5_43 rfl rfl rfl wx_611_0 (by decide +kernel) ⟨Nat.le_of_ble_eq_true rfl, Nat.le_of_ble_eq_true rfl⟩) ⟨fun a U g mk q => by obtain ⟨q0, q1, qP, qK, qD, qT, qS_q1⟩ := q; exact ⟨q0, q1, qP, va_K.moved (u := U) (U := U.calling g mk a) (Vm.Alike.refl U.vm) qK, qD, qT.mv (U := U.calling g mk a) (State.WarmedH.refl U), qS_q1.moved (U := U.calling g mk a) (Vm.Alike.refl U.vm)⟩, va_recv hK hPc (ci := 12) (q0 := 0) rfl rfl, fun U hU hW => ⟨rfl, by rw [hU], by rw [hU]; exact hPc, va_K.moved hW.alike hK, hDc.weaken (fun _ _ _ _ => trivial), hT.call hS hFc hU hW, hs_q1.call hS hFc hU hW⟩⟩ rfl rfl hl.1 rfl (lv_room (Nat.le_of_ble_eq_true rfl)) dJ5_init_a7421_58 ⟨hbk.1, hbk.2⟩) hS (fun q _ h => hFc q h) hFc (fun u ra t H1 locs ht hvm hwp hB hz1 hk1 hS => ?_)
      obtain ⟨u58_1, u58_2, u58_3, u58_4⟩ := u
      obtain ⟨hra, hP1, -, hD1⟩ := hB
      have hra := hra.symm
      subst hra
      rw [ht] at hP1
      obtain ⟨hP, hD⟩ := va_join (wr := []) (w1 := [(q, .inr (12, [.ref u58_1, .int (0 : Int32), .int 0, .int u58_4])), (u58_1, .inl (C 1, u58_2, .inl u58_3))]) hP hD [0, 1] [] rfl rfl (by decide) (by decide) hk1 hFc hP1 hD1
      generalize H1 = H at hP hS ⊢
      have hP : va_P D vwCl [(q, .inr (12, [.ref u58_1, .int (0 : Int32), .int 0, .int u58_4])), (u58_1, .inl (C 1, u58_2, .inl u58_3))] H := hP
      have hD : va_D A [(q, .inr (12, [.ref u58_1, .int (0 : Int32), .int 0, .int u58_4])), (u58_1, .inl (C 1, u58_2, .inl u58_3))] := hD
      refine lv_pop hx hb dJ5_init_a7421_61 rfl ?_
      obtain ⟨hbk, hwp⟩ := hwp
      have hP9 := hP.sub (ws' := [(q, .inr (12, [.ref u58_1, .int (0 : Int32), .int 0, .int u58_4])), (u58_1, .inl (C 1, u58_2, .inl u58_3))]) [0, 1] rfl
      have hD9 := hD.sub (ws' := [(q, .inr (12, [.ref u58_1, .int (0 : Int32), .int 0, .int u58_4])), (u58_1, .inl (C 1, u58_2, .inl u58_3))]) [0, 1] (by decide) rfl
      refine W.widen (k := mc) (n := ms) hbk.1 hbk.2 ?_
      exact W.vret hx hb hr (fun t ht hW => ⟨⟨(u58_1, u58_2, u58_3, u58_4, 0), rfl, hwp, by rw [ht]; exact hP9, va_K.moved hW.alike hK, hD9⟩, hS.F ht⟩) hS.2.2 dJ5_init_a7421_62

abbrev ws_J4_init_a7421 : List Cond := .code yJ4_init_a7421 cJ4_init_a7421 2 none :: WALL
theorem gc_J5_init_a7421 : GoodIn WALL ws_J5_init_a7421 := gc_0 wd_577
abbrev rm_J4_init_a7421 (mc ms : Nat) : Room := { frames := 8, cells := mc, slots := ms, locals := 197 }
abbrev w_J4_init_a7421 (C : Nat → ClassId) (q : Nat) (q1 : Nat) (t1_bs : List Int32) : va_W := [(q, .inr (12, [.null, .int 0, .int 0, .int 0]))]
abbrev wo_J4_init_a7421 (C : Nat → ClassId) (q : Nat) (q1 : Nat) (t1_bs : List Int32) (tp : Nat) (tn : Nat) (tf : Nat → Int32) (tc : Int32) (tl : Int32) : va_W := [(q, .inr (12, [.ref tp, .int 0, .int tl, .int tc])), (tp, .inl (C 1, tn, .inl tf))]
abbrev q_J4_init_a7421 (D : va_G) (C : Nat → ClassId) (q : Nat) (q1 : Nat) (t1_bs : List Int32) (Q : Nat → Nat → (Nat → Int32) → Int32 → Int32 → Prop) (A : Nat → Prop) : Array Value → State → Outcome → State → Prop := va_Qv (fun (u : Nat × Nat × (Nat → Int32) × Int32 × Int32) => Q u.1 u.2.1 u.2.2.1 u.2.2.2.1 u.2.2.2.2) (fun (u : Nat × Nat × (Nat → Int32) × Int32 × Int32) (t : State) => va_P D vwCl (wo_J4_init_a7421 C q q1 t1_bs u.1 u.2.1 u.2.2.1 u.2.2.2.1 u.2.2.2.2) t.heap ∧ va_K D vwCl (tyL C) t ∧ va_D A (wo_J4_init_a7421 C q q1 t1_bs u.1 u.2.1 u.2.2.1 u.2.2.2.1 u.2.2.2.2)) A
set_option maxHeartbeats 4000000 in
set_option maxRecDepth 100000 in
theorem met_J4_init_a7421 (l : Launch) (hst : l.stackTraces = false) (D : va_G) (C : Nat → ClassId) (q : Nat) (q1 : Nat) (t1_bs : List Int32) (mc : Nat) (ms : Nat) (sz : Nat) (Q : Nat → Nat → (Nat → Int32) → Int32 → Int32 → Prop) (hwp : wp_J4_init_a7421 t1_bs mc ms Q) : Met l yJ4_init_a7421 ws_J4_init_a7421 (rm_J4_init_a7421 mc ms) (va_Pc [.ref q, .ref q1] (fun U => U.heap.size = sz ∧ va_P D vwCl (w_J4_init_a7421 C q q1 t1_bs) U.heap ∧ va_K D vwCl (tyL C) U ∧ va_D (fun _ => True) (w_J4_init_a7421 C q q1 t1_bs) ∧ TX (va_A (w_J4_init_a7421 C q q1 t1_bs) sz) U U.heap ∧ StrC t1_bs q1 (va_A (w_J4_init_a7421 C q q1 t1_bs) sz) U U.heap)) (q_J4_init_a7421 D C q q1 t1_bs Q (va_A (w_J4_init_a7421 C q q1 t1_bs) sz)) mc ms (va_A (w_J4_init_a7421 C q q1 t1_bs) sz) := by
  refine Met.ofW (cc := cJ4_init_a7421) (maxL := 2) (ret := none) (by decide) rfl ?_
  intro p e s m args below meth c s₁ B hml hv
  obtain ⟨rfl, hsz, hP, hK, hD0, hT, hs_q1⟩ := hv
  have hx := B.exec
  have hb := B.bytes
  have hr := B.returns
  have hts : ∀ w ∈ WALL, w.before _ s = true := fun w h => atoms_spec (ws := ws_J4_init_a7421) B.pre w (List.mem_cons_of_mem _ h)
  have hown : s.vm.findClass RJ4 = some m.cls := findClass_of_methodNamed B.named
  have hlocks := B.notSynchronized
  subst hsz
  have hD := hD0.self (sz := s.heap.size)
  generalize hAe : va_A (w_J4_init_a7421 C q q1 t1_bs) s.heap.size = A at hD ⊢ hT hs_q1
  have hA : ∀ q : Nat, s.heap.size ≤ q → A q := fun q h => by rw [← hAe]; exact Or.inr h
  have hS : va_S A s.heap s.heap [] := va_S.rf
  have hl := lv_entry ([.ref q, .ref q1]) (n := 2) (Nat.le_of_ble_eq_true rfl)
  rw [lg_entry_eq]
  generalize (lg_sl ([.ref q, .ref q1]) ++ List.replicate (2 - (lg_sl ([.ref q, .ref q1])).length) Slot.unset).toArray = ls at hl ⊢
  have hl : lv_has ls 2 [(0, .ref q), (1, .ref q1)] := hl
  unfold wp_J4_init_a7421 at hwp
  obtain ⟨H, hH⟩ : ∃ H, H = s.heap := ⟨_, rfl⟩
  obtain ⟨locs, hlo⟩ : ∃ z : List Loc, z = [] := ⟨_, rfl⟩
  have hP : va_P D vwCl [(q, .inr (12, [.null, .int 0, .int 0, .int 0]))] H := by rw [hH]; exact hP
  have hD : va_D A [(q, .inr (12, [.null, .int 0, .int 0, .int 0]))] := hD
  have hS : va_S A s.heap H locs := by rw [hH, hlo]; exact hS
  suffices K : W p l e (headSpec ws_J4_init_a7421 (rm_J4_init_a7421 mc ms)).room s m ([.ref q, .ref q1] : List Value).toArray below meth c H locs 0 0 (MQ below (q_J4_init_a7421 D C q q1 t1_bs Q A) ([.ref q, .ref q1] : List Value).toArray s mc ms A) (F0 m 0 ls []) from by rw [hH, hlo] at K; exact K
  refine lv_aload_n hx hb dJ4_init_a7421_0 rfl (lv_at hl 0 rfl) ?_
  refine lv_aload_n hx hb dJ4_init_a7421_1 rfl (lv_at hl 1 rfl) ?_
  have hPc := hP.sub (ws' := [(q, .inr (12, [.null, .int 0, .int 0, .int 0]))]) [0] rfl
  have hDc := hD.sub (ws' := [(q, .inr (12, [.null, .int 0, .int 0, .int 0]))]) [0] (by decide) rfl
  have hFc := va_free (wc := [(q, .inr (12, [.null, .int 0, .int 0, .int 0]))]) hD hS hA [0] rfl
  obtain ⟨mb2, sb2, hbk, hwp⟩ := hwp
  refine va_callv (va_runI (As := [.ref q1]) (rest := []) ⟨hx, hb, hml, hown, hts⟩ (met_J5_init_a7421 l hst D C q q1 t1_bs mb2 sb2 H.size _ hwp) (cwI 1 hts gc_J5_init_a7421 rfl rfl rfl (hts (.initialized RJ5) wd_46) (hts (.methodLink RJ4 7 yJ5_init_a7421) wd_575) (hts (.instanceMethod yJ5_init_a7421) wd_576) rfl (by decide +kernel) ⟨Nat.le_of_ble_eq_true rfl, Nat.le_of_ble_eq_true rfl⟩) ⟨fun a U g mk q => by obtain ⟨q0, q1, qP, qK, qD, qT, qS_q1⟩ := q; exact ⟨q0, q1, qP, va_K.moved (u := U) (U := U.calling g mk a) (Vm.Alike.refl U.vm) qK, qD, qT.mv (U := U.calling g mk a) (State.WarmedH.refl U), qS_q1.moved (U := U.calling g mk a) (Vm.Alike.refl U.vm)⟩, fun U hU hW => ⟨rfl, by rw [hU], by rw [hU]; exact hPc, va_K.moved hW.alike hK, hDc.weaken (fun _ _ _ _ => trivial), hT.call hS hFc hU hW, hs_q1.call hS hFc hU hW⟩⟩ rfl rfl hl.1 rfl (lv_room (Nat.le_of_ble_eq_true rfl)) dJ4_init_a7421_2 ⟨hbk.1, hbk.2⟩) hS (fun q _ h => hFc q h) hFc (fun u t H1 locs ht hvm hwp hB hz1 hk1 hS => ?_)
  obtain ⟨u2_1, u2_2, u2_3, u2_4, u2_5⟩ := u
  obtain ⟨hP1, -, hD1⟩ := hB
  rw [ht] at hP1
  obtain ⟨hP, hD⟩ := va_join (wr := []) (w1 := [(q, .inr (12, [.ref u2_1, .int 0, .int u2_5, .int u2_4])), (u2_1, .inl (C 1, u2_2, .inl u2_3))]) hP hD [0] [] rfl rfl (by decide) (by decide) hk1 hFc hP1 hD1
  generalize H1 = H at hP hS ⊢
  have hP : va_P D vwCl [(q, .inr (12, [.ref u2_1, .int 0, .int u2_5, .int u2_4])), (u2_1, .inl (C 1, u2_2, .inl u2_3))] H := hP
  have hD : va_D A [(q, .inr (12, [.ref u2_1, .int 0, .int u2_5, .int u2_4])), (u2_1, .inl (C 1, u2_2, .inl u2_3))] := hD
  obtain ⟨hbk, hwp⟩ := hwp
  have hP9 := hP.sub (ws' := [(q, .inr (12, [.ref u2_1, .int 0, .int u2_5, .int u2_4])), (u2_1, .inl (C 1, u2_2, .inl u2_3))]) [0, 1] rfl
  have hD9 := hD.sub (ws' := [(q, .inr (12, [.ref u2_1, .int 0, .int u2_5, .int u2_4])), (u2_1, .inl (C 1, u2_2, .inl u2_3))]) [0, 1] (by decide) rfl
  refine W.widen (k := mc) (n := ms) hbk.1 hbk.2 ?_
  exact W.vret hx hb hr (fun t ht hW => ⟨⟨(u2_1, u2_2, u2_3, u2_4, u2_5), rfl, hwp, by rw [ht]; exact hP9, va_K.moved hW.alike hK, hD9⟩, hS.F ht⟩) hS.2.2 dJ4_init_a7421_5

abbrev ws_J6_stringSize_0f7a4 : List Cond := .code yJ6_stringSize_0f7a4 cJ6_stringSize_0f7a4 4 (some .int) :: WALL
abbrev rm_J6_stringSize_0f7a4 : Room := { frames := 0, cells := 0, slots := 0, locals := 0 }
abbrev w_J6_stringSize_0f7a4 (C : Nat → ClassId) : va_W := []
abbrev q_J6_stringSize_0f7a4 (D : va_G) (C : Nat → ClassId) (Q : Int32 → Prop) (A : Nat → Prop) : Array Value → State → Outcome → State → Prop := va_Qi (fun (r : Int32) (u : Unit) => Q r) (fun (u : Unit) (t : State) => va_P D vwCl (w_J6_stringSize_0f7a4 C ) t.heap ∧ va_K D vwCl (tyL C) t ∧ va_D A (w_J6_stringSize_0f7a4 C )) A
set_option maxHeartbeats 4000000 in
set_option maxRecDepth 100000 in
theorem met_J6_stringSize_0f7a4 (l : Launch) (D : va_G) (C : Nat → ClassId) (p0 : Int32) (sz : Nat) (Q : Int32 → Prop) (hwp : wp_J6_stringSize_0f7a4 p0 Q) : Met l yJ6_stringSize_0f7a4 ws_J6_stringSize_0f7a4 rm_J6_stringSize_0f7a4 (va_Pc [.int p0] (fun U => U.heap.size = sz ∧ va_P D vwCl (w_J6_stringSize_0f7a4 C ) U.heap ∧ va_K D vwCl (tyL C) U ∧ va_D (fun _ => True) (w_J6_stringSize_0f7a4 C ))) (q_J6_stringSize_0f7a4 D C  Q (va_A (w_J6_stringSize_0f7a4 C ) sz)) 0 0 (va_A (w_J6_stringSize_0f7a4 C ) sz) := by
  refine Met.ofW (cc := cJ6_stringSize_0f7a4) (maxL := 4) (ret := (some .int)) (by decide) rfl ?_
  intro p e s m args below meth c s₁ B hml hv
  obtain ⟨rfl, hsz, hP, hK, hD0⟩ := hv
  have hx := B.exec
  have hb := B.bytes
  have hr := B.returns
  have hts : ∀ w ∈ WALL, w.before _ s = true := fun w h => atoms_spec (ws := ws_J6_stringSize_0f7a4) B.pre w (List.mem_cons_of_mem _ h)
  have hown : s.vm.findClass RJ6 = some m.cls := findClass_of_methodNamed B.named
  have hlocks := B.notSynchronized
  subst hsz
  have hD := hD0.self (sz := s.heap.size)
  generalize hAe : va_A (w_J6_stringSize_0f7a4 C ) s.heap.size = A at hD ⊢
  have hA : ∀ q : Nat, s.heap.size ≤ q → A q := fun q h => by rw [← hAe]; exact Or.inr h
  have hS : va_S A s.heap s.heap [] := va_S.rf
  have hl := lv_entry ([.int p0]) (n := 4) (Nat.le_of_ble_eq_true rfl)
  rw [lg_entry_eq]
  generalize (lg_sl ([.int p0]) ++ List.replicate (4 - (lg_sl ([.int p0])).length) Slot.unset).toArray = ls at hl ⊢
  have hl : lv_has ls 4 [(0, .int p0)] := hl
  have HL16 : ∀ (x0 : Int32) (x1 : Int32) (n16 : Nat) (x2 : Int32) (x3 : Int32) (H : Heap) (locs : List Loc) (ls : Array Slot), lv_has ls 4 [(0, .int x0), (1, .int x1), (2, .int x2), (3, .int x3)] → va_P D vwCl [] H → va_D A [] → va_S A s.heap H locs → wp_J6_stringSize_0f7a4_L16 x0 x1 Q n16 x2 x3 → W p l e (headSpec ws_J6_stringSize_0f7a4 rm_J6_stringSize_0f7a4).room s m ([.int p0] : List Value).toArray below meth c H locs 0 0 (MQ below (q_J6_stringSize_0f7a4 D C Q A) ([.int p0] : List Value).toArray s 0 0 A) (F0 m 16 ls []) := by
    intro x0 x1 n16
    induction n16 with
    | zero =>
      intro x2 x3 H locs ls hl hP hD hS hwp
      exact False.elim hwp
    | succ n16 ih =>
      intro x2 x3 H locs ls hl hP hD hS hwp
      unfold wp_J6_stringSize_0f7a4_L16 at hwp
      refine lv_iload_n hx hb dJ6_stringSize_0f7a4_16 rfl (lv_at hl 3 rfl) ?_
      refine lv_bipush (v := 10) hx hb dJ6_stringSize_0f7a4_17 (by decide) ?_
      refine lv_icmp_ge (tgt := 42) hx hb dJ6_stringSize_0f7a4_19 (by decide) (fun c19 => ?_) (fun c19 => ?_)
      · have hwp := hwp.1 c19
        refine lv_bipush (v := 10) hx hb dJ6_stringSize_0f7a4_42 (by decide) ?_
        refine lv_iload_n hx hb dJ6_stringSize_0f7a4_44 rfl (lv_at hl 1 rfl) ?_
        refine lv_iadd hx hb dJ6_stringSize_0f7a4_45 ?_
        have hP9 := hP.sub (ws' := []) [] rfl
        have hD9 := hD.sub (ws' := []) [] (by decide) rfl
        exact W.iret (v := (10 : Int32) + x1) hx hb hr (fun t ht hW => ⟨⟨(10 : Int32) + x1, (), rfl, hwp, by rw [ht]; exact hP9, va_K.moved hW.alike hK, hD9⟩, hS.F ht⟩) hS.2.2 dJ6_stringSize_0f7a4_46
      · have hwp := hwp.2 c19
        refine lv_iload_n hx hb dJ6_stringSize_0f7a4_22 rfl (lv_at hl 0 rfl) ?_
        refine lv_iload_n hx hb dJ6_stringSize_0f7a4_23 rfl (lv_at hl 2 rfl) ?_
        refine lv_icmp_le (tgt := 31) hx hb dJ6_stringSize_0f7a4_24 (by decide) (fun c24 => ?_) (fun c24 => ?_)
        · have hwp := hwp.1 c24
          refine lv_bipush (v := 10) hx hb dJ6_stringSize_0f7a4_31 (by decide) ?_
          refine lv_iload_n hx hb dJ6_stringSize_0f7a4_33 rfl (lv_at hl 2 rfl) ?_
          refine lv_imul hx hb dJ6_stringSize_0f7a4_34 ?_
          refine lv_topi (fun v35 ev35 => ?_)
          have hwp := hwp v35 ev35
          refine lv_istore_n (lv' := [(2, .int v35), (0, .int x0), (1, .int x1), (3, .int x3)]) hx hb dJ6_stringSize_0f7a4_35 rfl hl (by decide) rfl (fun ls hl => ?_)
          refine lv_iinc (v := x3 + 1) (lv' := [(3, .int (x3 + 1)), (2, .int v35), (0, .int x0), (1, .int x1)]) hx hb dJ6_stringSize_0f7a4_36 hl (k := 3) rfl rfl (by decide) rfl (fun ls hl => ?_)
          refine lv_goto (tgt := 16) hx hb dJ6_stringSize_0f7a4_39 (by decide) ?_
          have hl9 := lv_sub (l' := [(0, .int x0), (1, .int x1), (2, .int v35), (3, .int (x3 + 1))]) hl [2, 3, 1, 0] rfl
          have hP9 := hP.sub (ws' := []) [] rfl
          have hD9 := hD.sub (ws' := []) [] (by decide) rfl
          exact ih v35 (x3 + 1) H locs ls hl9 hP9 hD9 hS hwp
        · have hwp := hwp.2 c24
          refine lv_iload_n hx hb dJ6_stringSize_0f7a4_27 rfl (lv_at hl 3 rfl) ?_
          refine lv_iload_n hx hb dJ6_stringSize_0f7a4_28 rfl (lv_at hl 1 rfl) ?_
          refine lv_iadd hx hb dJ6_stringSize_0f7a4_29 ?_
          have hP9 := hP.sub (ws' := []) [] rfl
          have hD9 := hD.sub (ws' := []) [] (by decide) rfl
          exact W.iret (v := x3 + x1) hx hb hr (fun t ht hW => ⟨⟨x3 + x1, (), rfl, hwp, by rw [ht]; exact hP9, va_K.moved hW.alike hK, hD9⟩, hS.F ht⟩) hS.2.2 dJ6_stringSize_0f7a4_30
  unfold wp_J6_stringSize_0f7a4 at hwp
  obtain ⟨H, hH⟩ : ∃ H, H = s.heap := ⟨_, rfl⟩
  obtain ⟨locs, hlo⟩ : ∃ z : List Loc, z = [] := ⟨_, rfl⟩
  have hP : va_P D vwCl [] H := by rw [hH]; exact hP
  have hD : va_D A [] := hD
  have hS : va_S A s.heap H locs := by rw [hH, hlo]; exact hS
  suffices K : W p l e (headSpec ws_J6_stringSize_0f7a4 rm_J6_stringSize_0f7a4).room s m ([.int p0] : List Value).toArray below meth c H locs 0 0 (MQ below (q_J6_stringSize_0f7a4 D C Q A) ([.int p0] : List Value).toArray s 0 0 A) (F0 m 0 ls []) from by rw [hH, hlo] at K; exact K
  refine lv_iconst (v := 1) hx hb dJ6_stringSize_0f7a4_0 (by decide) ?_
  refine lv_istore_n (lv' := [(1, .int (1 : Int32)), (0, .int p0)]) hx hb dJ6_stringSize_0f7a4_1 rfl hl (by decide) rfl (fun ls hl => ?_)
  refine lv_iload_n hx hb dJ6_stringSize_0f7a4_2 rfl (lv_at hl 1 rfl) ?_
  refine lv_if_lt (tgt := 11) hx hb dJ6_stringSize_0f7a4_3 (by decide) (fun c3 => ?_) (fun c3 => ?_)
  · have hwp := hwp.1 c3
    refine lv_bipush (v := (-10)) hx hb dJ6_stringSize_0f7a4_11 (by decide) ?_
    refine lv_istore_n (lv' := [(2, .int (-10 : Int32)), (1, .int (1 : Int32)), (0, .int p0)]) hx hb dJ6_stringSize_0f7a4_13 rfl hl (by decide) rfl (fun ls hl => ?_)
    refine lv_iconst (v := 1) hx hb dJ6_stringSize_0f7a4_14 (by decide) ?_
    refine lv_istore_n (lv' := [(3, .int (1 : Int32)), (2, .int (-10 : Int32)), (1, .int (1 : Int32)), (0, .int p0)]) hx hb dJ6_stringSize_0f7a4_15 rfl hl (by decide) rfl (fun ls hl => ?_)
    have hl9 := lv_sub (l' := [(0, .int p0), (1, .int (1 : Int32)), (2, .int (-10 : Int32)), (3, .int (1 : Int32))]) hl [3, 2, 1, 0] rfl
    have hP9 := hP.sub (ws' := []) [] rfl
    have hD9 := hD.sub (ws' := []) [] (by decide) rfl
    obtain ⟨nn9, hwp⟩ := hwp
    refine HL16 p0 (1 : Int32) nn9 (-10 : Int32) (1 : Int32) H locs ls hl9 hP9 hD9 hS hwp
  · have hwp := hwp.2 c3
    refine lv_iconst (v := 0) hx hb dJ6_stringSize_0f7a4_6 (by decide) ?_
    refine lv_istore_n (lv' := [(1, .int (0 : Int32)), (0, .int p0)]) hx hb dJ6_stringSize_0f7a4_7 rfl hl (by decide) rfl (fun ls hl => ?_)
    refine lv_iload_n hx hb dJ6_stringSize_0f7a4_8 rfl (lv_at hl 1 rfl) ?_
    refine lv_ineg hx hb dJ6_stringSize_0f7a4_9 ?_
    refine lv_topi (fun v10 ev10 => ?_)
    have hwp := hwp v10 ev10
    refine lv_istore_n (lv' := [(0, .int v10), (1, .int (0 : Int32))]) hx hb dJ6_stringSize_0f7a4_10 rfl hl (by decide) rfl (fun ls hl => ?_)
    refine lv_bipush (v := (-10)) hx hb dJ6_stringSize_0f7a4_11 (by decide) ?_
    refine lv_istore_n (lv' := [(2, .int (-10 : Int32)), (0, .int v10), (1, .int (0 : Int32))]) hx hb dJ6_stringSize_0f7a4_13 rfl hl (by decide) rfl (fun ls hl => ?_)
    refine lv_iconst (v := 1) hx hb dJ6_stringSize_0f7a4_14 (by decide) ?_
    refine lv_istore_n (lv' := [(3, .int (1 : Int32)), (2, .int (-10 : Int32)), (0, .int v10), (1, .int (0 : Int32))]) hx hb dJ6_stringSize_0f7a4_15 rfl hl (by decide) rfl (fun ls hl => ?_)
    have hl9 := lv_sub (l' := [(0, .int v10), (1, .int (0 : Int32)), (2, .int (-10 : Int32)), (3, .int (1 : Int32))]) hl [2, 3, 1, 0] rfl
    have hP9 := hP.sub (ws' := []) [] rfl
    have hD9 := hD.sub (ws' := []) [] (by decide) rfl
    obtain ⟨nn9, hwp⟩ := hwp
    refine HL16 v10 (0 : Int32) nn9 (-10 : Int32) (1 : Int32) H locs ls hl9 hP9 hD9 hS hwp

abbrev ws_J6_getChars_ba4f3 : List Cond := .code yJ6_getChars_ba4f3 cJ6_getChars_ba4f3 7 (some .int) :: WALL
abbrev rm_J6_getChars_ba4f3 : Room := { frames := 0, cells := 0, slots := 0, locals := 0 }
abbrev w_J6_getChars_ba4f3 (C : Nat → ClassId) (q2 : Nat) (tn2 : Nat) (t2 : Nat → Int32) : va_W := [(q2, .inl (C 1, tn2, .inl t2))]
abbrev q_J6_getChars_ba4f3 (D : va_G) (C : Nat → ClassId) (q2 : Nat) (tn2 : Nat) (Q : Int32 → (Nat → Int32) → Prop) (A : Nat → Prop) : Array Value → State → Outcome → State → Prop := va_Qi (fun (r : Int32) (u : (Nat → Int32)) => Q r u) (fun (u : (Nat → Int32)) (t : State) => va_P D vwCl (w_J6_getChars_ba4f3 C q2 tn2 u) t.heap ∧ va_K D vwCl (tyL C) t ∧ va_D A (w_J6_getChars_ba4f3 C q2 tn2 u)) A
set_option maxHeartbeats 4000000 in
set_option maxRecDepth 100000 in
theorem met_J6_getChars_ba4f3 (l : Launch) (hst : l.stackTraces = false) (D : va_G) (C : Nat → ClassId) (q2 : Nat) (p0 : Int32) (p1 : Int32) (tn2 : Nat) (t2 : Nat → Int32) (sz : Nat) (Q : Int32 → (Nat → Int32) → Prop) (hwp : wp_J6_getChars_ba4f3 p0 p1 tn2 t2 Q) : Met l yJ6_getChars_ba4f3 ws_J6_getChars_ba4f3 rm_J6_getChars_ba4f3 (va_Pc [.int p0, .int p1, .ref q2] (fun U => U.heap.size = sz ∧ va_P D vwCl (w_J6_getChars_ba4f3 C q2 tn2 t2) U.heap ∧ va_K D vwCl (tyL C) U ∧ va_D (fun _ => True) (w_J6_getChars_ba4f3 C q2 tn2 t2) ∧ TX (va_A (w_J6_getChars_ba4f3 C q2 tn2 t2) sz) U U.heap)) (q_J6_getChars_ba4f3 D C q2 tn2 Q (va_A (w_J6_getChars_ba4f3 C q2 tn2 t2) sz)) 0 0 (va_A (w_J6_getChars_ba4f3 C q2 tn2 t2) sz) := by
  refine Met.ofW (cc := cJ6_getChars_ba4f3) (maxL := 7) (ret := (some .int)) (by decide) rfl ?_
  intro p e s m args below meth c s₁ B hml hv
  obtain ⟨rfl, hsz, hP, hK, hD0, hT⟩ := hv
  have hx := B.exec
  have hb := B.bytes
  have hr := B.returns
  have hts : ∀ w ∈ WALL, w.before _ s = true := fun w h => atoms_spec (ws := ws_J6_getChars_ba4f3) B.pre w (List.mem_cons_of_mem _ h)
  have hown : s.vm.findClass RJ6 = some m.cls := findClass_of_methodNamed B.named
  have hlocks := B.notSynchronized
  subst hsz
  have hD := hD0.self (sz := s.heap.size)
  generalize hAe : va_A (w_J6_getChars_ba4f3 C q2 tn2 t2) s.heap.size = A at hD ⊢ hT
  have hA : ∀ q : Nat, s.heap.size ≤ q → A q := fun q h => by rw [← hAe]; exact Or.inr h
  have hS : va_S A s.heap s.heap [] := va_S.rf
  have hl := lv_entry ([.int p0, .int p1, .ref q2]) (n := 7) (Nat.le_of_ble_eq_true rfl)
  rw [lg_entry_eq]
  generalize (lg_sl ([.int p0, .int p1, .ref q2]) ++ List.replicate (7 - (lg_sl ([.int p0, .int p1, .ref q2])).length) Slot.unset).toArray = ls at hl ⊢
  have hl : lv_has ls 7 [(0, .int p0), (1, .int p1), (2, .ref q2)] := hl
  have HL22 : ∀ (x6 : Int32) (k72 : Int32 → Int32 → (Nat → Int32) → Prop) (hk72 : ∀ (x0 : Int32) (x5 : Int32) (t2 : Nat → Int32) (H : Heap) (locs : List Loc) (ls : Array Slot), lv_has ls 7 [(0, .int x0), (2, .ref q2), (5, .int x5), (6, .int x6)] → va_P D vwCl [(q2, .inl (C 1, tn2, .inl t2))] H → va_D A [(q2, .inl (C 1, tn2, .inl t2))] → va_S A s.heap H locs → k72 x0 x5 t2 → W p l e (headSpec ws_J6_getChars_ba4f3 rm_J6_getChars_ba4f3).room s m ([.int p0, .int p1, .ref q2] : List Value).toArray below meth c H locs 0 0 (MQ below (q_J6_getChars_ba4f3 D C q2 tn2 Q A) ([.int p0, .int p1, .ref q2] : List Value).toArray s 0 0 A) (F0 m 72 ls [])) (n22 : Nat) (x0 : Int32) (x5 : Int32) (t2 : Nat → Int32) (H : Heap) (locs : List Loc) (ls : Array Slot), lv_has ls 7 [(0, .int x0), (2, .ref q2), (5, .int x5), (6, .int x6)] → va_P D vwCl [(q2, .inl (C 1, tn2, .inl t2))] H → va_D A [(q2, .inl (C 1, tn2, .inl t2))] → va_S A s.heap H locs → wp_J6_getChars_ba4f3_L22 tn2 x6 k72 Q n22 x0 x5 t2 → W p l e (headSpec ws_J6_getChars_ba4f3 rm_J6_getChars_ba4f3).room s m ([.int p0, .int p1, .ref q2] : List Value).toArray below meth c H locs 0 0 (MQ below (q_J6_getChars_ba4f3 D C q2 tn2 Q A) ([.int p0, .int p1, .ref q2] : List Value).toArray s 0 0 A) (F0 m 22 ls []) := by
    intro x6 k72 hk72 n22
    induction n22 with
    | zero =>
      intro x0 x5 t2 H locs ls hl hP hD hS hwp
      exact False.elim hwp
    | succ n22 ih =>
      intro x0 x5 t2 H locs ls hl hP hD hS hwp
      unfold wp_J6_getChars_ba4f3_L22 at hwp
      refine lv_iload_n hx hb dJ6_getChars_ba4f3_22 rfl (lv_at hl 0 rfl) ?_
      refine lv_bipush (v := (-100)) hx hb dJ6_getChars_ba4f3_23 (by decide) ?_
      refine lv_icmp_gt (tgt := 72) hx hb dJ6_getChars_ba4f3_25 (by decide) (fun c25 => ?_) (fun c25 => ?_)
      · have hwp := hwp.1 c25
        have hl9 := lv_sub (l' := [(0, .int x0), (2, .ref q2), (5, .int x5), (6, .int x6)]) hl [0, 1, 2, 3] rfl
        have hP9 := hP.sub (ws' := [(q2, .inl (C 1, tn2, .inl t2))]) [0] rfl
        have hD9 := hD.sub (ws' := [(q2, .inl (C 1, tn2, .inl t2))]) [0] (by decide) rfl
        exact hk72 x0 x5 t2 H locs ls hl9 hP9 hD9 hS hwp
      · have hwp := hwp.2 c25
        refine lv_iload_n hx hb dJ6_getChars_ba4f3_28 rfl (lv_at hl 0 rfl) ?_
        refine lv_bipush (v := 100) hx hb dJ6_getChars_ba4f3_29 (by decide) ?_
        refine lv_idiv hx hb dJ6_getChars_ba4f3_31 (by decide) ?_
        refine lv_topi (fun v32 ev32 => ?_)
        have hwp := hwp v32 ev32
        refine lv_istore_n (lv' := [(3, .int v32), (0, .int x0), (2, .ref q2), (5, .int x5), (6, .int x6)]) hx hb dJ6_getChars_ba4f3_32 rfl hl (by decide) rfl (fun ls hl => ?_)
        refine lv_iload_n hx hb dJ6_getChars_ba4f3_33 rfl (lv_at hl 0 rfl) ?_
        refine lv_bipush (v := 100) hx hb dJ6_getChars_ba4f3_34 (by decide) ?_
        refine lv_imul hx hb dJ6_getChars_ba4f3_36 ?_
        refine lv_iload_n hx hb dJ6_getChars_ba4f3_37 rfl (lv_at hl 1 rfl) ?_
        refine lv_isub hx hb dJ6_getChars_ba4f3_38 ?_
        refine lv_topi (fun v39 ev39 => ?_)
        have hwp := hwp v39 ev39
        refine lv_istore (lv' := [(4, .int v39), (3, .int v32), (0, .int x0), (2, .ref q2), (5, .int x5), (6, .int x6)]) hx hb dJ6_getChars_ba4f3_39 hl (by decide) rfl (fun ls hl => ?_)
        refine lv_iload_n hx hb dJ6_getChars_ba4f3_41 rfl (lv_at hl 1 rfl) ?_
        refine lv_istore_n (lv' := [(0, .int v32), (4, .int v39), (3, .int v32), (2, .ref q2), (5, .int x5), (6, .int x6)]) hx hb dJ6_getChars_ba4f3_42 rfl hl (by decide) rfl (fun ls hl => ?_)
        refine lv_aload_n hx hb dJ6_getChars_ba4f3_43 rfl (lv_at hl 3 rfl) ?_
        refine lv_iinc (v := x5 + (-1)) (lv' := [(5, .int (x5 + (-1))), (0, .int v32), (4, .int v39), (3, .int v32), (2, .ref q2), (6, .int x6)]) hx hb dJ6_getChars_ba4f3_44 hl (k := 4) rfl rfl (by decide) rfl (fun ls hl => ?_)
        refine lv_iload hx hb dJ6_getChars_ba4f3_47 (lv_at hl 0 rfl) ?_
        obtain ⟨z49, hz_z49, ht_z49⟩ := hT.2.2.2.2.2.2.2.2.1
        refine va_gets hx hb hz_z49 hS hown (hts (.fieldLink RJ6 83 "java/lang/Integer" "DigitOnes" "[B") wd_738) (fun _ h9 => h9) dJ6_getChars_ba4f3_49 ?_
        refine lv_iload hx hb dJ6_getChars_ba4f3_52 (lv_at hl 2 rfl) ?_
        obtain ⟨hi54, hwp⟩ := hwp
        refine va_tb (v := .int (dgO v39.toNatClampNeg)) hx hb ht_z49 hS hi54 rfl dJ6_getChars_ba4f3_54 ?_
        obtain ⟨hi55, hwp⟩ := hwp
        refine va_bast (D := D) hx hb hK hP hD hS 0 1 rfl rfl hi55 dJ6_getChars_ba4f3_55 (fun H locs hP hD hS => ?_)
        have hP : va_P D vwCl [(q2, .inl (C 1, tn2, .inl (upd t2 (x5 + (-1)).toNatClampNeg (vp_nar .byte (dgO v39.toNatClampNeg)))))] H := hP
        have hD : va_D A [(q2, .inl (C 1, tn2, .inl (upd t2 (x5 + (-1)).toNatClampNeg (vp_nar .byte (dgO v39.toNatClampNeg)))))] := hD
        refine lv_aload_n hx hb dJ6_getChars_ba4f3_56 rfl (lv_at hl 4 rfl) ?_
        refine lv_iinc (v := x5 + (-1) + (-1)) (lv' := [(5, .int (x5 + (-1) + (-1))), (0, .int v32), (4, .int v39), (3, .int v32), (2, .ref q2), (6, .int x6)]) hx hb dJ6_getChars_ba4f3_57 hl (k := 0) rfl rfl (by decide) rfl (fun ls hl => ?_)
        refine lv_iload hx hb dJ6_getChars_ba4f3_60 (lv_at hl 0 rfl) ?_
        obtain ⟨z62, hz_z62, ht_z62⟩ := hT.2.2.2.2.2.2.2.2.2.1
        refine va_gets hx hb hz_z62 hS hown (hts (.fieldLink RJ6 87 "java/lang/Integer" "DigitTens" "[B") wd_740) (fun _ h9 => h9) dJ6_getChars_ba4f3_62 ?_
        refine lv_iload hx hb dJ6_getChars_ba4f3_65 (lv_at hl 2 rfl) ?_
        obtain ⟨hi67, hwp⟩ := hwp
        refine va_tb (v := .int (dgT v39.toNatClampNeg)) hx hb ht_z62 hS hi67 rfl dJ6_getChars_ba4f3_67 ?_
        obtain ⟨hi68, hwp⟩ := hwp
        refine va_bast (D := D) hx hb hK hP hD hS 0 1 rfl rfl hi68 dJ6_getChars_ba4f3_68 (fun H locs hP hD hS => ?_)
        have hP : va_P D vwCl [(q2, .inl (C 1, tn2, .inl (upd (upd t2 (x5 + (-1)).toNatClampNeg (vp_nar .byte (dgO v39.toNatClampNeg))) (x5 + (-1) + (-1)).toNatClampNeg (vp_nar .byte (dgT v39.toNatClampNeg)))))] H := hP
        have hD : va_D A [(q2, .inl (C 1, tn2, .inl (upd (upd t2 (x5 + (-1)).toNatClampNeg (vp_nar .byte (dgO v39.toNatClampNeg))) (x5 + (-1) + (-1)).toNatClampNeg (vp_nar .byte (dgT v39.toNatClampNeg)))))] := hD
        refine lv_goto (tgt := 22) hx hb dJ6_getChars_ba4f3_69 (by decide) ?_
        have hl9 := lv_sub (l' := [(0, .int v32), (2, .ref q2), (5, .int (x5 + (-1) + (-1))), (6, .int x6)]) hl [1, 4, 0, 5] rfl
        have hP9 := hP.sub (ws' := [(q2, .inl (C 1, tn2, .inl (upd (upd t2 (x5 + (-1)).toNatClampNeg (vp_nar .byte (dgO v39.toNatClampNeg))) (x5 + (-1) + (-1)).toNatClampNeg (vp_nar .byte (dgT v39.toNatClampNeg)))))]) [0] rfl
        have hD9 := hD.sub (ws' := [(q2, .inl (C 1, tn2, .inl (upd (upd t2 (x5 + (-1)).toNatClampNeg (vp_nar .byte (dgO v39.toNatClampNeg))) (x5 + (-1) + (-1)).toNatClampNeg (vp_nar .byte (dgT v39.toNatClampNeg)))))]) [0] (by decide) rfl
        exact ih v32 (x5 + (-1) + (-1)) (upd (upd t2 (x5 + (-1)).toNatClampNeg (vp_nar .byte (dgO v39.toNatClampNeg))) (x5 + (-1) + (-1)).toNatClampNeg (vp_nar .byte (dgT v39.toNatClampNeg))) H locs ls hl9 hP9 hD9 hS hwp
  unfold wp_J6_getChars_ba4f3 at hwp
  obtain ⟨H, hH⟩ : ∃ H, H = s.heap := ⟨_, rfl⟩
  obtain ⟨locs, hlo⟩ : ∃ z : List Loc, z = [] := ⟨_, rfl⟩
  have hP : va_P D vwCl [(q2, .inl (C 1, tn2, .inl t2))] H := by rw [hH]; exact hP
  have hD : va_D A [(q2, .inl (C 1, tn2, .inl t2))] := hD
  have hS : va_S A s.heap H locs := by rw [hH, hlo]; exact hS
  suffices K : W p l e (headSpec ws_J6_getChars_ba4f3 rm_J6_getChars_ba4f3).room s m ([.int p0, .int p1, .ref q2] : List Value).toArray below meth c H locs 0 0 (MQ below (q_J6_getChars_ba4f3 D C q2 tn2 Q A) ([.int p0, .int p1, .ref q2] : List Value).toArray s 0 0 A) (F0 m 0 ls []) from by rw [hH, hlo] at K; exact K
  refine lv_iload_n hx hb dJ6_getChars_ba4f3_0 rfl (lv_at hl 1 rfl) ?_
  refine lv_istore (lv' := [(5, .int p1), (0, .int p0), (1, .int p1), (2, .ref q2)]) hx hb dJ6_getChars_ba4f3_1 hl (by decide) rfl (fun ls hl => ?_)
  refine lv_iload_n hx hb dJ6_getChars_ba4f3_3 rfl (lv_at hl 1 rfl) ?_
  refine lv_if_ge (tgt := 11) hx hb dJ6_getChars_ba4f3_4 (by decide) (fun c4 => ?_) (fun c4 => ?_)
  · have hwp := hwp.1 c4
    refine lv_iconst (v := 0) hx hb dJ6_getChars_ba4f3_11 (by decide) ?_
    refine lv_istore (lv' := [(6, .int (0 : Int32)), (5, .int p1), (0, .int p0), (1, .int p1), (2, .ref q2)]) hx hb dJ6_getChars_ba4f3_12 hl (by decide) rfl (fun ls hl => ?_)
    refine lv_iload hx hb dJ6_getChars_ba4f3_14 (lv_at hl 0 rfl) ?_
    refine lv_if_ne (tgt := 22) hx hb dJ6_getChars_ba4f3_16 (by decide) (fun c16 => ?_) (fun c16 => ?_)
    · exact absurd c16 (by decide)
    · refine lv_iload_n hx hb dJ6_getChars_ba4f3_19 rfl (lv_at hl 2 rfl) ?_
      refine lv_ineg hx hb dJ6_getChars_ba4f3_20 ?_
      refine lv_topi (fun v21 ev21 => ?_)
      have hwp := hwp v21 ev21
      refine lv_istore_n (lv' := [(0, .int v21), (6, .int (0 : Int32)), (5, .int p1), (1, .int p1), (2, .ref q2)]) hx hb dJ6_getChars_ba4f3_21 rfl hl (by decide) rfl (fun ls hl => ?_)
      have hl9 := lv_sub (l' := [(0, .int v21), (2, .ref q2), (5, .int p1), (6, .int (0 : Int32))]) hl [0, 4, 2, 1] rfl
      have hP9 := hP.sub (ws' := [(q2, .inl (C 1, tn2, .inl t2))]) [0] rfl
      have hD9 := hD.sub (ws' := [(q2, .inl (C 1, tn2, .inl t2))]) [0] (by decide) rfl
      obtain ⟨nn9, hwp⟩ := hwp
      refine HL22 (0 : Int32) _ (fun x0 x5 t2 H locs ls hl hP hD hS hwp => ?_) nn9 v21 p1 t2 H locs ls hl9 hP9 hD9 hS hwp
      refine lv_aload_n hx hb dJ6_getChars_ba4f3_72 rfl (lv_at hl 1 rfl) ?_
      refine lv_iinc (v := x5 + (-1)) (lv' := [(5, .int (x5 + (-1))), (0, .int x0), (2, .ref q2), (6, .int (0 : Int32))]) hx hb dJ6_getChars_ba4f3_73 hl (k := 2) rfl rfl (by decide) rfl (fun ls hl => ?_)
      refine lv_iload hx hb dJ6_getChars_ba4f3_76 (lv_at hl 0 rfl) ?_
      obtain ⟨z78, hz_z78, ht_z78⟩ := hT.2.2.2.2.2.2.2.2.1
      refine va_gets hx hb hz_z78 hS hown (hts (.fieldLink RJ6 83 "java/lang/Integer" "DigitOnes" "[B") wd_738) (fun _ h9 => h9) dJ6_getChars_ba4f3_78 ?_
      refine lv_iload_n hx hb dJ6_getChars_ba4f3_81 rfl (lv_at hl 1 rfl) ?_
      refine lv_ineg hx hb dJ6_getChars_ba4f3_82 ?_
      obtain ⟨hi83, hwp⟩ := hwp
      refine va_tb (v := .int (dgO (-x0).toNatClampNeg)) hx hb ht_z78 hS hi83 rfl dJ6_getChars_ba4f3_83 ?_
      obtain ⟨hi84, hwp⟩ := hwp
      refine va_bast (D := D) hx hb hK hP hD hS 0 1 rfl rfl hi84 dJ6_getChars_ba4f3_84 (fun H locs hP hD hS => ?_)
      have hP : va_P D vwCl [(q2, .inl (C 1, tn2, .inl (upd t2 (x5 + (-1)).toNatClampNeg (vp_nar .byte (dgO (-x0).toNatClampNeg)))))] H := hP
      have hD : va_D A [(q2, .inl (C 1, tn2, .inl (upd t2 (x5 + (-1)).toNatClampNeg (vp_nar .byte (dgO (-x0).toNatClampNeg)))))] := hD
      refine lv_iload_n hx hb dJ6_getChars_ba4f3_85 rfl (lv_at hl 1 rfl) ?_
      refine lv_bipush (v := (-9)) hx hb dJ6_getChars_ba4f3_86 (by decide) ?_
      refine lv_icmp_ge (tgt := 104) hx hb dJ6_getChars_ba4f3_88 (by decide) (fun c88 => ?_) (fun c88 => ?_)
      · have hwp := hwp.1 c88
        refine lv_iload hx hb dJ6_getChars_ba4f3_104 (lv_at hl 3 rfl) ?_
        refine lv_if_eq (tgt := 118) hx hb dJ6_getChars_ba4f3_106 (by decide) (fun c106 => ?_) (fun c106 => ?_)
        · refine lv_iload hx hb dJ6_getChars_ba4f3_118 (lv_at hl 0 rfl) ?_
          have hP9 := hP.sub (ws' := [(q2, .inl (C 1, tn2, .inl (upd t2 (x5 + (-1)).toNatClampNeg (vp_nar .byte (dgO (-x0).toNatClampNeg)))))]) [0] rfl
          have hD9 := hD.sub (ws' := [(q2, .inl (C 1, tn2, .inl (upd t2 (x5 + (-1)).toNatClampNeg (vp_nar .byte (dgO (-x0).toNatClampNeg)))))]) [0] (by decide) rfl
          exact W.iret (v := x5 + (-1)) hx hb hr (fun t ht hW => ⟨⟨x5 + (-1), (upd t2 (x5 + (-1)).toNatClampNeg (vp_nar .byte (dgO (-x0).toNatClampNeg))), rfl, hwp, by rw [ht]; exact hP9, va_K.moved hW.alike hK, hD9⟩, hS.F ht⟩) hS.2.2 dJ6_getChars_ba4f3_120
        · exact absurd c106 (by decide)
      · have hwp := hwp.2 c88
        refine lv_aload_n hx hb dJ6_getChars_ba4f3_91 rfl (lv_at hl 2 rfl) ?_
        refine lv_iinc (v := x5 + (-1) + (-1)) (lv' := [(5, .int (x5 + (-1) + (-1))), (0, .int x0), (2, .ref q2), (6, .int (0 : Int32))]) hx hb dJ6_getChars_ba4f3_92 hl (k := 0) rfl rfl (by decide) rfl (fun ls hl => ?_)
        refine lv_iload hx hb dJ6_getChars_ba4f3_95 (lv_at hl 0 rfl) ?_
        obtain ⟨z97, hz_z97, ht_z97⟩ := hT.2.2.2.2.2.2.2.2.2.1
        refine va_gets hx hb hz_z97 hS hown (hts (.fieldLink RJ6 87 "java/lang/Integer" "DigitTens" "[B") wd_740) (fun _ h9 => h9) dJ6_getChars_ba4f3_97 ?_
        refine lv_iload_n hx hb dJ6_getChars_ba4f3_100 rfl (lv_at hl 1 rfl) ?_
        refine lv_ineg hx hb dJ6_getChars_ba4f3_101 ?_
        obtain ⟨hi102, hwp⟩ := hwp
        refine va_tb (v := .int (dgT (-x0).toNatClampNeg)) hx hb ht_z97 hS hi102 rfl dJ6_getChars_ba4f3_102 ?_
        obtain ⟨hi103, hwp⟩ := hwp
        refine va_bast (D := D) hx hb hK hP hD hS 0 1 rfl rfl hi103 dJ6_getChars_ba4f3_103 (fun H locs hP hD hS => ?_)
        have hP : va_P D vwCl [(q2, .inl (C 1, tn2, .inl (upd (upd t2 (x5 + (-1)).toNatClampNeg (vp_nar .byte (dgO (-x0).toNatClampNeg))) (x5 + (-1) + (-1)).toNatClampNeg (vp_nar .byte (dgT (-x0).toNatClampNeg)))))] H := hP
        have hD : va_D A [(q2, .inl (C 1, tn2, .inl (upd (upd t2 (x5 + (-1)).toNatClampNeg (vp_nar .byte (dgO (-x0).toNatClampNeg))) (x5 + (-1) + (-1)).toNatClampNeg (vp_nar .byte (dgT (-x0).toNatClampNeg)))))] := hD
        refine lv_iload hx hb dJ6_getChars_ba4f3_104 (lv_at hl 3 rfl) ?_
        refine lv_if_eq (tgt := 118) hx hb dJ6_getChars_ba4f3_106 (by decide) (fun c106 => ?_) (fun c106 => ?_)
        · refine lv_iload hx hb dJ6_getChars_ba4f3_118 (lv_at hl 0 rfl) ?_
          have hP9 := hP.sub (ws' := [(q2, .inl (C 1, tn2, .inl (upd (upd t2 (x5 + (-1)).toNatClampNeg (vp_nar .byte (dgO (-x0).toNatClampNeg))) (x5 + (-1) + (-1)).toNatClampNeg (vp_nar .byte (dgT (-x0).toNatClampNeg)))))]) [0] rfl
          have hD9 := hD.sub (ws' := [(q2, .inl (C 1, tn2, .inl (upd (upd t2 (x5 + (-1)).toNatClampNeg (vp_nar .byte (dgO (-x0).toNatClampNeg))) (x5 + (-1) + (-1)).toNatClampNeg (vp_nar .byte (dgT (-x0).toNatClampNeg)))))]) [0] (by decide) rfl
          exact W.iret (v := x5 + (-1) + (-1)) hx hb hr (fun t ht hW => ⟨⟨x5 + (-1) + (-1), (upd (upd t2 (x5 + (-1)).toNatClampNeg (vp_nar .byte (dgO (-x0).toNatClampNeg))) (x5 + (-1) + (-1)).toNatClampNeg (vp_nar .byte (dgT (-x0).toNatClampNeg))), rfl, hwp, by rw [ht]; exact hP9, va_K.moved hW.alike hK, hD9⟩, hS.F ht⟩) hS.2.2 dJ6_getChars_ba4f3_120
        · exact absurd c106 (by decide)
  · have hwp := hwp.2 c4
    exact False.elim hwp

abbrev ws_J5_isLatin1_aae02 : List Cond := .code yJ5_isLatin1_aae02 cJ5_isLatin1_aae02 1 (some .boolean) :: WALL
abbrev rm_J5_isLatin1_aae02 : Room := { frames := 0, cells := 0, slots := 0, locals := 0 }
abbrev w_J5_isLatin1_aae02 (C : Nat → ClassId) (q : Nat) (tp : Nat) (tn : Nat) (tf : Nat → Int32) (tc : Int32) (tl : Int32) : va_W := [(q, .inr (12, [.ref tp, .int 0, .int tl, .int tc])), (tp, .inl (C 1, tn, .inl tf))]
abbrev q_J5_isLatin1_aae02 (D : va_G) (C : Nat → ClassId) (q : Nat) (tp : Nat) (tn : Nat) (tf : Nat → Int32) (tc : Int32) (tl : Int32) (Q : Int32 → Prop) (A : Nat → Prop) : Array Value → State → Outcome → State → Prop := va_Qi (fun (r : Int32) (u : Unit) => Q r) (fun (u : Unit) (t : State) => va_P D vwCl (w_J5_isLatin1_aae02 C q tp tn tf tc tl) t.heap ∧ va_K D vwCl (tyL C) t ∧ va_D A (w_J5_isLatin1_aae02 C q tp tn tf tc tl)) A
set_option maxHeartbeats 4000000 in
set_option maxRecDepth 100000 in
theorem met_J5_isLatin1_aae02 (l : Launch) (hst : l.stackTraces = false) (D : va_G) (C : Nat → ClassId) (q : Nat) (tp : Nat) (tn : Nat) (tf : Nat → Int32) (tc : Int32) (tl : Int32) (sz : Nat) (Q : Int32 → Prop) (hwp : wp_J5_isLatin1_aae02 tp tn tf tc tl Q) : Met l yJ5_isLatin1_aae02 ws_J5_isLatin1_aae02 rm_J5_isLatin1_aae02 (va_Pc [.ref q] (fun U => U.heap.size = sz ∧ va_P D vwCl (w_J5_isLatin1_aae02 C q tp tn tf tc tl) U.heap ∧ va_K D vwCl (tyL C) U ∧ va_D (fun _ => True) (w_J5_isLatin1_aae02 C q tp tn tf tc tl) ∧ TX (va_A (w_J5_isLatin1_aae02 C q tp tn tf tc tl) sz) U U.heap)) (q_J5_isLatin1_aae02 D C q tp tn tf tc tl Q (va_A (w_J5_isLatin1_aae02 C q tp tn tf tc tl) sz)) 0 0 (va_A (w_J5_isLatin1_aae02 C q tp tn tf tc tl) sz) := by
  refine Met.ofW (cc := cJ5_isLatin1_aae02) (maxL := 1) (ret := (some .boolean)) (by decide) rfl ?_
  intro p e s m args below meth c s₁ B hml hv
  obtain ⟨rfl, hsz, hP, hK, hD0, hT⟩ := hv
  have hx := B.exec
  have hb := B.bytes
  have hr := B.returns
  have hts : ∀ w ∈ WALL, w.before _ s = true := fun w h => atoms_spec (ws := ws_J5_isLatin1_aae02) B.pre w (List.mem_cons_of_mem _ h)
  have hown : s.vm.findClass RJ5 = some m.cls := findClass_of_methodNamed B.named
  have hlocks := B.notSynchronized
  subst hsz
  have hD := hD0.self (sz := s.heap.size)
  generalize hAe : va_A (w_J5_isLatin1_aae02 C q tp tn tf tc tl) s.heap.size = A at hD ⊢ hT
  have hA : ∀ q : Nat, s.heap.size ≤ q → A q := fun q h => by rw [← hAe]; exact Or.inr h
  have hS : va_S A s.heap s.heap [] := va_S.rf
  have hl := lv_entry ([.ref q]) (n := 1) (Nat.le_of_ble_eq_true rfl)
  rw [lg_entry_eq]
  generalize (lg_sl ([.ref q]) ++ List.replicate (1 - (lg_sl ([.ref q])).length) Slot.unset).toArray = ls at hl ⊢
  have hl : lv_has ls 1 [(0, .ref q)] := hl
  unfold wp_J5_isLatin1_aae02 at hwp
  obtain ⟨H, hH⟩ : ∃ H, H = s.heap := ⟨_, rfl⟩
  obtain ⟨locs, hlo⟩ : ∃ z : List Loc, z = [] := ⟨_, rfl⟩
  have hP : va_P D vwCl [(q, .inr (12, [.ref tp, .int 0, .int tl, .int tc])), (tp, .inl (C 1, tn, .inl tf))] H := by rw [hH]; exact hP
  have hD : va_D A [(q, .inr (12, [.ref tp, .int 0, .int tl, .int tc])), (tp, .inl (C 1, tn, .inl tf))] := hD
  have hS : va_S A s.heap H locs := by rw [hH, hlo]; exact hS
  suffices K : W p l e (headSpec ws_J5_isLatin1_aae02 rm_J5_isLatin1_aae02).room s m ([.ref q] : List Value).toArray below meth c H locs 0 0 (MQ below (q_J5_isLatin1_aae02 D C q tp tn tf tc tl Q A) ([.ref q] : List Value).toArray s 0 0 A) (F0 m 0 ls []) from by rw [hH, hlo] at K; exact K
  refine va_gets hx hb hT.2.2.2.2.2.2.1 hS hown (hts (.fieldLink RJ5 18 "java/lang/String" "COMPACT_STRINGS" "Z") wd_653) (fun _ h9 => h9) dJ5_isLatin1_aae02_0 ?_
  refine lv_if_eq (tgt := 17) hx hb dJ5_isLatin1_aae02_3 (by decide) (fun c3 => ?_) (fun c3 => ?_)
  · exact absurd c3 (by decide)
  · refine lv_aload_n hx hb dJ5_isLatin1_aae02_6 rfl (lv_at hl 0 rfl) ?_
    refine va_get (D := D) (ci := 12) (v := .int 0) (C := RJ4) (T := TJ4) (N := 4) hx hb hts iwJ4 hown hK hP 0 rfl rfl 1 (by decide) (hts (.fieldLink RJ5 22 "java/lang/AbstractStringBuilder" "coder" "B") wd_714) (fun _ h9 => h9) rfl dJ5_isLatin1_aae02_7 ?_
    refine lv_if_ne (tgt := 17) hx hb dJ5_isLatin1_aae02_10 (by decide) (fun c10 => ?_) (fun c10 => ?_)
    · exact absurd c10 (by decide)
    · refine lv_iconst (v := 1) hx hb dJ5_isLatin1_aae02_13 (by decide) ?_
      refine lv_goto (tgt := 18) hx hb dJ5_isLatin1_aae02_14 (by decide) ?_
      have hP9 := hP.sub (ws' := [(q, .inr (12, [.ref tp, .int 0, .int tl, .int tc])), (tp, .inl (C 1, tn, .inl tf))]) [0, 1] rfl
      have hD9 := hD.sub (ws' := [(q, .inr (12, [.ref tp, .int 0, .int tl, .int tc])), (tp, .inl (C 1, tn, .inl tf))]) [0, 1] (by decide) rfl
      exact W.zret (v := (1 : Int32)) (ty := .boolean) hx hb hr rfl (fun t ht hW => ⟨⟨(1 : Int32), (), rfl, hwp, by rw [ht]; exact hP9, va_K.moved hW.alike hK, hD9⟩, hS.F ht⟩) hS.2.2 dJ5_isLatin1_aae02_18

abbrev ws_J5_append_c97b9 : List Cond := .code yJ5_append_c97b9 cJ5_append_c97b9 4 (some (.object "java/lang/AbstractStringBuilder")) :: WALL
theorem gc_J5_245 : GoodIn WALL (va_wsS RJ5 245 yJ6_stringSize_0f7a4 ws_J6_stringSize_0f7a4) := gc_s wd_732 wd_733 wd_57 wd_734
theorem gc_J5_83 : GoodIn WALL (va_wsU RJ5 83 RJ4 "java/lang/AbstractStringBuilder" yJ5_isLatin1_aae02 yJ5_isLatin1_aae02 ws_J5_isLatin1_aae02) := gc_u wx_648_0 wd_650 wx_651_0 wd_649 wd_46 wd_652
theorem gc_J5_248 : GoodIn WALL (va_wsS RJ5 248 yJ6_getChars_ba4f3 ws_J6_getChars_ba4f3) := gc_s wd_735 wd_736 wd_57 wd_737
abbrev rm_J5_append_c97b9 (mc ms : Nat) : Room := { frames := 4, cells := mc, slots := ms, locals := 108 }
abbrev w_J5_append_c97b9 (C : Nat → ClassId) (q : Nat) (tp : Nat) (tn : Nat) (tf : Nat → Int32) (tc : Int32) (tl : Int32) : va_W := [(q, .inr (12, [.ref tp, .int 0, .int tl, .int tc])), (tp, .inl (C 1, tn, .inl tf))]
abbrev q_J5_append_c97b9 (D : va_G) (C : Nat → ClassId) (q : Nat) (tl : Int32) (Q : Nat → Nat → (Nat → Int32) → Int32 → Prop) (A : Nat → Prop) : Array Value → State → Outcome → State → Prop := va_Qr (fun (u : Nat × Nat × (Nat → Int32) × Int32) => Q u.1 u.2.1 u.2.2.1 u.2.2.2) (fun (u : Nat × Nat × (Nat → Int32) × Int32) (a : Nat) (t : State) => a = q ∧ va_P D vwCl (w_J5_append_c97b9 C q u.1 u.2.1 u.2.2.1 u.2.2.2 tl) t.heap ∧ va_K D vwCl (tyL C) t ∧ va_D A (w_J5_append_c97b9 C q u.1 u.2.1 u.2.2.1 u.2.2.2 tl)) A
set_option maxHeartbeats 4000000 in
set_option maxRecDepth 100000 in
theorem met_J5_append_c97b9 (l : Launch) (hst : l.stackTraces = false) (D : va_G) (C : Nat → ClassId) (q : Nat) (p1 : Int32) (tp : Nat) (tn : Nat) (tf : Nat → Int32) (tc : Int32) (tl : Int32) (mc : Nat) (ms : Nat) (sz : Nat) (Q : Nat → Nat → (Nat → Int32) → Int32 → Prop) (hwp : wp_J5_append_c97b9 p1 tp tn tf tc tl mc ms Q) : Met l yJ5_append_c97b9 ws_J5_append_c97b9 (rm_J5_append_c97b9 mc ms) (va_Pc [.ref q, .int p1] (fun U => U.heap.size = sz ∧ va_P D vwCl (w_J5_append_c97b9 C q tp tn tf tc tl) U.heap ∧ va_K D vwCl (tyL C) U ∧ va_D (fun _ => True) (w_J5_append_c97b9 C q tp tn tf tc tl) ∧ TX (va_A (w_J5_append_c97b9 C q tp tn tf tc tl) sz) U U.heap)) (q_J5_append_c97b9 D C q tl Q (va_A (w_J5_append_c97b9 C q tp tn tf tc tl) sz)) mc ms (va_A (w_J5_append_c97b9 C q tp tn tf tc tl) sz) := by
  refine Met.ofW (cc := cJ5_append_c97b9) (maxL := 4) (ret := (some (.object "java/lang/AbstractStringBuilder"))) (by decide) rfl ?_
  intro p e s m args below meth c s₁ B hml hv
  obtain ⟨rfl, hsz, hP, hK, hD0, hT⟩ := hv
  have hx := B.exec
  have hb := B.bytes
  have hr := B.returns
  have hts : ∀ w ∈ WALL, w.before _ s = true := fun w h => atoms_spec (ws := ws_J5_append_c97b9) B.pre w (List.mem_cons_of_mem _ h)
  have hown : s.vm.findClass RJ5 = some m.cls := findClass_of_methodNamed B.named
  have hlocks := B.notSynchronized
  subst hsz
  have hD := hD0.self (sz := s.heap.size)
  generalize hAe : va_A (w_J5_append_c97b9 C q tp tn tf tc tl) s.heap.size = A at hD ⊢ hT
  have hA : ∀ q : Nat, s.heap.size ≤ q → A q := fun q h => by rw [← hAe]; exact Or.inr h
  have hS : va_S A s.heap s.heap [] := va_S.rf
  have hl := lv_entry ([.ref q, .int p1]) (n := 4) (Nat.le_of_ble_eq_true rfl)
  rw [lg_entry_eq]
  generalize (lg_sl ([.ref q, .int p1]) ++ List.replicate (4 - (lg_sl ([.ref q, .int p1])).length) Slot.unset).toArray = ls at hl ⊢
  have hl : lv_has ls 4 [(0, .ref q), (1, .int p1)] := hl
  unfold wp_J5_append_c97b9 at hwp
  obtain ⟨H, hH⟩ : ∃ H, H = s.heap := ⟨_, rfl⟩
  obtain ⟨locs, hlo⟩ : ∃ z : List Loc, z = [] := ⟨_, rfl⟩
  have hP : va_P D vwCl [(q, .inr (12, [.ref tp, .int 0, .int tl, .int tc])), (tp, .inl (C 1, tn, .inl tf))] H := by rw [hH]; exact hP
  have hD : va_D A [(q, .inr (12, [.ref tp, .int 0, .int tl, .int tc])), (tp, .inl (C 1, tn, .inl tf))] := hD
  have hS : va_S A s.heap H locs := by rw [hH, hlo]; exact hS
  suffices K : W p l e (headSpec ws_J5_append_c97b9 (rm_J5_append_c97b9 mc ms)).room s m ([.ref q, .int p1] : List Value).toArray below meth c H locs 0 0 (MQ below (q_J5_append_c97b9 D C q tl Q A) ([.ref q, .int p1] : List Value).toArray s mc ms A) (F0 m 0 ls []) from by rw [hH, hlo] at K; exact K
  refine lv_aload_n hx hb dJ5_append_c97b9_0 rfl (lv_at hl 0 rfl) ?_
  refine va_get (D := D) (ci := 12) (v := .int tc) (C := RJ4) (T := TJ4) (N := 4) hx hb hts iwJ4 hown hK hP 0 rfl rfl 3 (by decide) (hts (.fieldLink RJ5 79 "java/lang/AbstractStringBuilder" "count" "I") wd_716) (fun _ h9 => h9) rfl dJ5_append_c97b9_1 ?_
  refine lv_istore_n (lv' := [(2, .int tc), (0, .ref q), (1, .int p1)]) hx hb dJ5_append_c97b9_4 rfl hl (by decide) rfl (fun ls hl => ?_)
  refine lv_iload_n hx hb dJ5_append_c97b9_5 rfl (lv_at hl 0 rfl) ?_
  refine lv_iload_n hx hb dJ5_append_c97b9_6 rfl (lv_at hl 2 rfl) ?_
  have hPc := hP.sub (ws' := []) [] rfl
  have hDc := hD.sub (ws' := []) [] (by decide) rfl
  have hFc := va_free (wc := []) hD hS hA [] rfl
  obtain ⟨hbk, hwp⟩ := hwp
  refine va_calli (va_runS (As := [.int p1]) (rest := [.int tc]) ⟨hx, hb, hml, hown, hts⟩ (met_J6_stringSize_0f7a4 l D C p1 H.size _ hwp) (va_cwS 1 hts gc_J5_245 rfl rfl rfl (by decide +kernel) ⟨Nat.le_of_ble_eq_true rfl, Nat.le_of_ble_eq_true rfl⟩) ⟨fun a U g mk q => by obtain ⟨q0, q1, qP, qK, qD⟩ := q; exact ⟨q0, q1, qP, va_K.moved (u := U) (U := U.calling g mk a) (Vm.Alike.refl U.vm) qK, qD⟩, fun U hU hW => ⟨rfl, by rw [hU], by rw [hU]; exact hPc, va_K.moved hW.alike hK, hDc.weaken (fun _ _ _ _ => trivial)⟩⟩ rfl rfl hl.1 rfl (lv_room (Nat.le_of_ble_eq_true rfl)) dJ5_append_c97b9_7 ⟨hbk.1, hbk.2⟩) hS (fun q _ h => hFc q h) hFc (fun r7 u t H1 locs ht hvm hwp hB hz1 hk1 hS => ?_)
  obtain ⟨hP1, -, hD1⟩ := hB
  rw [ht] at hP1
  obtain ⟨hP, hD⟩ := va_join (wr := [(q, .inr (12, [.ref tp, .int 0, .int tl, .int tc])), (tp, .inl (C 1, tn, .inl tf))]) (w1 := []) hP hD [] [0, 1] rfl rfl (by decide) (by decide) hk1 hFc hP1 hD1
  generalize H1 = H at hP hS ⊢
  have hP : va_P D vwCl [(q, .inr (12, [.ref tp, .int 0, .int tl, .int tc])), (tp, .inl (C 1, tn, .inl tf))] H := hP
  have hD : va_D A [(q, .inr (12, [.ref tp, .int 0, .int tl, .int tc])), (tp, .inl (C 1, tn, .inl tf))] := hD
  refine lv_iadd hx hb dJ5_append_c97b9_10 ?_
  refine lv_topi (fun v11 ev11 => ?_)
  have hwp := hwp v11 ev11
  refine lv_istore_n (lv' := [(3, .int v11), (2, .int tc), (0, .ref q), (1, .int p1)]) hx hb dJ5_append_c97b9_11 rfl hl (by decide) rfl (fun ls hl => ?_)
  refine lv_aload_n hx hb dJ5_append_c97b9_12 rfl (lv_at hl 2 rfl) ?_
  refine lv_iload_n hx hb dJ5_append_c97b9_13 rfl (lv_at hl 0 rfl) ?_
  have hPc := hP.sub (ws' := [(q, .inr (12, [.ref tp, .int 0, .int tl, .int tc])), (tp, .inl (C 1, tn, .inl tf))]) [0, 1] rfl
  have hDc := hD.sub (ws' := [(q, .inr (12, [.ref tp, .int 0, .int tl, .int tc])), (tp, .inl (C 1, tn, .inl tf))]) [0, 1] (by decide) rfl
  have hFc := va_free (wc := [(q, .inr (12, [.ref tp, .int 0, .int tl, .int tc])), (tp, .inl (C 1, tn, .inl tf))]) hD hS hA [0, 1] rfl
  obtain ⟨mb14, sb14, hbk, hwp⟩ := hwp
  refine va_callv (va_runU (As := [.int v11]) (rest := []) ⟨hx, hb, hml, hown, hts⟩ (met_J5_ensureCapacityInternal_d00df l hst D C q v11 tp tn tf tc tl mb14 sb14 H.size _ hwp) (va_cwU 1 (gc_upts (va_Nw.use (by rfl) (hT.2.2.2.2.2.2.2.2.2.2.1 yJ5_ensureCapacityInternal_d00df (by decide +kernel))) hts) gc_J5_100 rfl rfl rfl rfl (by decide +kernel) ⟨Nat.le_of_ble_eq_true rfl, Nat.le_of_ble_eq_true rfl⟩) ⟨fun a U g mk q => by obtain ⟨q0, q1, qP, qK, qD, qT⟩ := q; exact ⟨q0, q1, qP, va_K.moved (u := U) (U := U.calling g mk a) (Vm.Alike.refl U.vm) qK, qD, qT.mv (U := U.calling g mk a) (State.WarmedH.refl U)⟩, va_recv hK hPc (ci := 12) (q0 := 0) rfl rfl, fun U hU hW => ⟨rfl, by rw [hU], by rw [hU]; exact hPc, va_K.moved hW.alike hK, hDc.weaken (fun _ _ _ _ => trivial), hT.call hS hFc hU hW⟩⟩ rfl rfl hl.1 rfl (lv_room (Nat.le_of_ble_eq_true rfl)) dJ5_append_c97b9_14 ⟨hbk.1, hbk.2⟩) hS (fun q _ h => hFc q h) hFc (fun u t H1 locs ht hvm hwp hB hz1 hk1 hS => ?_)
  obtain ⟨u14_1, u14_2, u14_3⟩ := u
  obtain ⟨hP1, -, hD1⟩ := hB
  rw [ht] at hP1
  obtain ⟨hP, hD⟩ := va_join (wr := []) (w1 := [(q, .inr (12, [.ref u14_1, .int 0, .int tl, .int tc])), (u14_1, .inl (C 1, u14_2, .inl u14_3))]) hP hD [0, 1] [] rfl rfl (by decide) (by decide) hk1 hFc hP1 hD1
  generalize H1 = H at hP hS ⊢
  have hP : va_P D vwCl [(q, .inr (12, [.ref u14_1, .int 0, .int tl, .int tc])), (u14_1, .inl (C 1, u14_2, .inl u14_3))] H := hP
  have hD : va_D A [(q, .inr (12, [.ref u14_1, .int 0, .int tl, .int tc])), (u14_1, .inl (C 1, u14_2, .inl u14_3))] := hD
  refine lv_aload_n hx hb dJ5_append_c97b9_17 rfl (lv_at hl 2 rfl) ?_
  have hPc := hP.sub (ws' := [(q, .inr (12, [.ref u14_1, .int 0, .int tl, .int tc])), (u14_1, .inl (C 1, u14_2, .inl u14_3))]) [0, 1] rfl
  have hDc := hD.sub (ws' := [(q, .inr (12, [.ref u14_1, .int 0, .int tl, .int tc])), (u14_1, .inl (C 1, u14_2, .inl u14_3))]) [0, 1] (by decide) rfl
  have hFc := va_free (wc := [(q, .inr (12, [.ref u14_1, .int 0, .int tl, .int tc])), (u14_1, .inl (C 1, u14_2, .inl u14_3))]) hD hS hA [0, 1] rfl
  obtain ⟨hbk, hwp⟩ := hwp
  refine va_calli (va_runU (As := []) (rest := []) ⟨hx, hb, hml, hown, hts⟩ (met_J5_isLatin1_aae02 l hst D C q u14_1 u14_2 u14_3 tc tl H.size _ hwp) (va_cwU 0 hts gc_J5_83 rfl rfl rfl rfl (by decide +kernel) ⟨Nat.le_of_ble_eq_true rfl, Nat.le_of_ble_eq_true rfl⟩) ⟨fun a U g mk q => by obtain ⟨q0, q1, qP, qK, qD, qT⟩ := q; exact ⟨q0, q1, qP, va_K.moved (u := U) (U := U.calling g mk a) (Vm.Alike.refl U.vm) qK, qD, qT.mv (U := U.calling g mk a) (State.WarmedH.refl U)⟩, va_recv hK hPc (ci := 12) (q0 := 0) rfl rfl, fun U hU hW => ⟨rfl, by rw [hU], by rw [hU]; exact hPc, va_K.moved hW.alike hK, hDc.weaken (fun _ _ _ _ => trivial), hT.call hS hFc hU hW⟩⟩ rfl rfl hl.1 rfl (lv_room (Nat.le_of_ble_eq_true rfl)) dJ5_append_c97b9_18 ⟨hbk.1, hbk.2⟩) hS (fun q _ h => hFc q h) hFc (fun r18 u t H1 locs ht hvm hwp hB hz1 hk1 hS => ?_)
  obtain ⟨hP1, -, hD1⟩ := hB
  rw [ht] at hP1
  obtain ⟨hP, hD⟩ := va_join (wr := []) (w1 := [(q, .inr (12, [.ref u14_1, .int 0, .int tl, .int tc])), (u14_1, .inl (C 1, u14_2, .inl u14_3))]) hP hD [0, 1] [] rfl rfl (by decide) (by decide) hk1 hFc hP1 hD1
  generalize H1 = H at hP hS ⊢
  have hP : va_P D vwCl [(q, .inr (12, [.ref u14_1, .int 0, .int tl, .int tc])), (u14_1, .inl (C 1, u14_2, .inl u14_3))] H := hP
  have hD : va_D A [(q, .inr (12, [.ref u14_1, .int 0, .int tl, .int tc])), (u14_1, .inl (C 1, u14_2, .inl u14_3))] := hD
  refine lv_if_eq (tgt := 37) hx hb dJ5_append_c97b9_21 (by decide) (fun c21 => ?_) (fun c21 => ?_)
  · have hwp := hwp.1 c21
    exact False.elim hwp
  · have hwp := hwp.2 c21
    refine lv_iload_n hx hb dJ5_append_c97b9_24 rfl (lv_at hl 3 rfl) ?_
    refine lv_iload_n hx hb dJ5_append_c97b9_25 rfl (lv_at hl 0 rfl) ?_
    refine lv_aload_n hx hb dJ5_append_c97b9_26 rfl (lv_at hl 2 rfl) ?_
    refine va_get (D := D) (ci := 12) (v := .ref u14_1) (C := RJ4) (T := TJ4) (N := 4) hx hb hts iwJ4 hown hK hP 0 rfl rfl 0 (by decide) (hts (.fieldLink RJ5 15 "java/lang/AbstractStringBuilder" "value" "[B") wd_713) (fun _ h9 => h9) rfl dJ5_append_c97b9_27 ?_
    have hPc := hP.sub (ws' := [(u14_1, .inl (C 1, u14_2, .inl u14_3))]) [1] rfl
    have hDc := hD.sub (ws' := [(u14_1, .inl (C 1, u14_2, .inl u14_3))]) [1] (by decide) rfl
    have hFc := va_free (wc := [(u14_1, .inl (C 1, u14_2, .inl u14_3))]) hD hS hA [1] rfl
    obtain ⟨hbk, hwp⟩ := hwp
    refine va_calli (va_runS (As := [.int p1, .int v11, .ref u14_1]) (rest := []) ⟨hx, hb, hml, hown, hts⟩ (met_J6_getChars_ba4f3 l hst D C u14_1 p1 v11 u14_2 u14_3 H.size _ hwp) (va_cwS 3 hts gc_J5_248 rfl rfl rfl (by decide +kernel) ⟨Nat.le_of_ble_eq_true rfl, Nat.le_of_ble_eq_true rfl⟩) ⟨fun a U g mk q => by obtain ⟨q0, q1, qP, qK, qD, qT⟩ := q; exact ⟨q0, q1, qP, va_K.moved (u := U) (U := U.calling g mk a) (Vm.Alike.refl U.vm) qK, qD, qT.mv (U := U.calling g mk a) (State.WarmedH.refl U)⟩, fun U hU hW => ⟨rfl, by rw [hU], by rw [hU]; exact hPc, va_K.moved hW.alike hK, hDc.weaken (fun _ _ _ _ => trivial), hT.call hS hFc hU hW⟩⟩ rfl rfl hl.1 rfl (lv_room (Nat.le_of_ble_eq_true rfl)) dJ5_append_c97b9_30 ⟨hbk.1, hbk.2⟩) hS (fun q _ h => hFc q h) hFc (fun r30 u t H1 locs ht hvm hwp hB hz1 hk1 hS => ?_)
    obtain ⟨u30_4, rfl⟩ : ∃ z, z = u := ⟨_, rfl⟩
    obtain ⟨hP1, -, hD1⟩ := hB
    rw [ht] at hP1
    obtain ⟨hP, hD⟩ := va_join (wr := [(q, .inr (12, [.ref u14_1, .int 0, .int tl, .int tc]))]) (w1 := [(u14_1, .inl (C 1, u14_2, .inl u30_4))]) hP hD [1] [0] rfl rfl (by decide) (by decide) hk1 hFc hP1 hD1
    generalize H1 = H at hP hS ⊢
    have hP : va_P D vwCl [(q, .inr (12, [.ref u14_1, .int 0, .int tl, .int tc])), (u14_1, .inl (C 1, u14_2, .inl u30_4))] H := hP
    have hD : va_D A [(q, .inr (12, [.ref u14_1, .int 0, .int tl, .int tc])), (u14_1, .inl (C 1, u14_2, .inl u30_4))] := hD
    refine lv_pop hx hb dJ5_append_c97b9_33 rfl ?_
    refine lv_goto (tgt := 48) hx hb dJ5_append_c97b9_34 (by decide) ?_
    refine lv_aload_n hx hb dJ5_append_c97b9_48 rfl (lv_at hl 2 rfl) ?_
    refine lv_iload_n hx hb dJ5_append_c97b9_49 rfl (lv_at hl 0 rfl) ?_
    refine va_put (D := D) (ci := 12) (v := .int v11) (ty := .int) (C := RJ4) (T := TJ4) (N := 4) hx hb hts iwJ4 tyJ4 tyJ4_ok nmJ4 hown hK hP hD hS 0 rfl rfl 3 (by decide) (hts (.fieldLink RJ5 79 "java/lang/AbstractStringBuilder" "count" "I") wd_716) (fun _ h9 => h9) rfl (by decide +kernel) rfl rfl (Nat.le_of_ble_eq_true rfl) dJ5_append_c97b9_50 (fun H locs hP hD hS => ?_)
    have hP : va_P D vwCl [(q, .inr (12, [.ref u14_1, .int 0, .int tl, .int v11])), (u14_1, .inl (C 1, u14_2, .inl u30_4))] H := hP
    have hD : va_D A [(q, .inr (12, [.ref u14_1, .int 0, .int tl, .int v11])), (u14_1, .inl (C 1, u14_2, .inl u30_4))] := hD
    refine lv_aload_n hx hb dJ5_append_c97b9_53 rfl (lv_at hl 2 rfl) ?_
    obtain ⟨hbk, hwp⟩ := hwp
    have hP9 := hP.sub (ws' := [(q, .inr (12, [.ref u14_1, .int 0, .int tl, .int v11])), (u14_1, .inl (C 1, u14_2, .inl u30_4))]) [0, 1] rfl
    have hD9 := hD.sub (ws' := [(q, .inr (12, [.ref u14_1, .int 0, .int tl, .int v11])), (u14_1, .inl (C 1, u14_2, .inl u30_4))]) [0, 1] (by decide) rfl
    refine W.widen (k := mc) (n := ms) hbk.1 hbk.2 ?_
    exact W.aret (v := .ref q) (rt := (.object "java/lang/AbstractStringBuilder")) hx hb hr (Or.inl ⟨_, rfl⟩) (Or.inr ⟨_, rfl⟩) (fun t ht hW => ⟨⟨(u14_1, u14_2, u30_4, v11), q, rfl, hwp, rfl, by rw [ht]; exact hP9, va_K.moved hW.alike hK, hD9⟩, hS.F ht⟩) hS.2.2 dJ5_append_c97b9_54

abbrev ws_J4_append_bf812 : List Cond := .code yJ4_append_bf812 cJ4_append_bf812 2 (some (.object "java/lang/StringBuilder")) :: WALL
theorem gc_J4_53 : GoodIn WALL (va_wsSU RJ4 53 yJ5_append_c97b9 ws_J5_append_c97b9) := gc_su wd_729 wd_1228 wd_610 wd_730 wd_46 wx_731_0
abbrev rm_J4_append_bf812 (mc ms : Nat) : Room := { frames := 5, cells := mc, slots := ms, locals := 131 }
abbrev w_J4_append_bf812 (C : Nat → ClassId) (q : Nat) (tp : Nat) (tn : Nat) (tf : Nat → Int32) (tc : Int32) (tl : Int32) : va_W := [(q, .inr (12, [.ref tp, .int 0, .int tl, .int tc])), (tp, .inl (C 1, tn, .inl tf))]
abbrev q_J4_append_bf812 (D : va_G) (C : Nat → ClassId) (q : Nat) (tl : Int32) (Q : Nat → Nat → (Nat → Int32) → Int32 → Prop) (A : Nat → Prop) : Array Value → State → Outcome → State → Prop := va_Qr (fun (u : Nat × Nat × (Nat → Int32) × Int32) => Q u.1 u.2.1 u.2.2.1 u.2.2.2) (fun (u : Nat × Nat × (Nat → Int32) × Int32) (a : Nat) (t : State) => a = q ∧ va_P D vwCl (w_J4_append_bf812 C q u.1 u.2.1 u.2.2.1 u.2.2.2 tl) t.heap ∧ va_K D vwCl (tyL C) t ∧ va_D A (w_J4_append_bf812 C q u.1 u.2.1 u.2.2.1 u.2.2.2 tl)) A
set_option maxHeartbeats 4000000 in
set_option maxRecDepth 100000 in
theorem met_J4_append_bf812 (l : Launch) (hst : l.stackTraces = false) (D : va_G) (C : Nat → ClassId) (q : Nat) (p1 : Int32) (tp : Nat) (tn : Nat) (tf : Nat → Int32) (tc : Int32) (tl : Int32) (mc : Nat) (ms : Nat) (sz : Nat) (Q : Nat → Nat → (Nat → Int32) → Int32 → Prop) (hwp : wp_J4_append_bf812 p1 tp tn tf tc tl mc ms Q) : Met l yJ4_append_bf812 ws_J4_append_bf812 (rm_J4_append_bf812 mc ms) (va_Pc [.ref q, .int p1] (fun U => U.heap.size = sz ∧ va_P D vwCl (w_J4_append_bf812 C q tp tn tf tc tl) U.heap ∧ va_K D vwCl (tyL C) U ∧ va_D (fun _ => True) (w_J4_append_bf812 C q tp tn tf tc tl) ∧ TX (va_A (w_J4_append_bf812 C q tp tn tf tc tl) sz) U U.heap)) (q_J4_append_bf812 D C q tl Q (va_A (w_J4_append_bf812 C q tp tn tf tc tl) sz)) mc ms (va_A (w_J4_append_bf812 C q tp tn tf tc tl) sz) := by
  refine Met.ofW (cc := cJ4_append_bf812) (maxL := 2) (ret := (some (.object "java/lang/StringBuilder"))) (by decide) rfl ?_
  intro p e s m args below meth c s₁ B hml hv
  obtain ⟨rfl, hsz, hP, hK, hD0, hT⟩ := hv
  have hx := B.exec
  have hb := B.bytes
  have hr := B.returns
  have hts : ∀ w ∈ WALL, w.before _ s = true := fun w h => atoms_spec (ws := ws_J4_append_bf812) B.pre w (List.mem_cons_of_mem _ h)
  have hown : s.vm.findClass RJ4 = some m.cls := findClass_of_methodNamed B.named
  have hlocks := B.notSynchronized
  subst hsz
  have hD := hD0.self (sz := s.heap.size)
  generalize hAe : va_A (w_J4_append_bf812 C q tp tn tf tc tl) s.heap.size = A at hD ⊢ hT
  have hA : ∀ q : Nat, s.heap.size ≤ q → A q := fun q h => by rw [← hAe]; exact Or.inr h
  have hS : va_S A s.heap s.heap [] := va_S.rf
  have hl := lv_entry ([.ref q, .int p1]) (n := 2) (Nat.le_of_ble_eq_true rfl)
  rw [lg_entry_eq]
  generalize (lg_sl ([.ref q, .int p1]) ++ List.replicate (2 - (lg_sl ([.ref q, .int p1])).length) Slot.unset).toArray = ls at hl ⊢
  have hl : lv_has ls 2 [(0, .ref q), (1, .int p1)] := hl
  unfold wp_J4_append_bf812 at hwp
  obtain ⟨H, hH⟩ : ∃ H, H = s.heap := ⟨_, rfl⟩
  obtain ⟨locs, hlo⟩ : ∃ z : List Loc, z = [] := ⟨_, rfl⟩
  have hP : va_P D vwCl [(q, .inr (12, [.ref tp, .int 0, .int tl, .int tc])), (tp, .inl (C 1, tn, .inl tf))] H := by rw [hH]; exact hP
  have hD : va_D A [(q, .inr (12, [.ref tp, .int 0, .int tl, .int tc])), (tp, .inl (C 1, tn, .inl tf))] := hD
  have hS : va_S A s.heap H locs := by rw [hH, hlo]; exact hS
  suffices K : W p l e (headSpec ws_J4_append_bf812 (rm_J4_append_bf812 mc ms)).room s m ([.ref q, .int p1] : List Value).toArray below meth c H locs 0 0 (MQ below (q_J4_append_bf812 D C q tl Q A) ([.ref q, .int p1] : List Value).toArray s mc ms A) (F0 m 0 ls []) from by rw [hH, hlo] at K; exact K
  refine lv_aload_n hx hb dJ4_append_bf812_0 rfl (lv_at hl 0 rfl) ?_
  refine lv_iload_n hx hb dJ4_append_bf812_1 rfl (lv_at hl 1 rfl) ?_
  have hPc := hP.sub (ws' := [(q, .inr (12, [.ref tp, .int 0, .int tl, .int tc])), (tp, .inl (C 1, tn, .inl tf))]) [0, 1] rfl
  have hDc := hD.sub (ws' := [(q, .inr (12, [.ref tp, .int 0, .int tl, .int tc])), (tp, .inl (C 1, tn, .inl tf))]) [0, 1] (by decide) rfl
  have hFc := va_free (wc := [(q, .inr (12, [.ref tp, .int 0, .int tl, .int tc])), (tp, .inl (C 1, tn, .inl tf))]) hD hS hA [0, 1] rfl
  obtain ⟨mb2, sb2, hbk, hwp⟩ := hwp
  refine va_callr (va_runSU (hK.1 12 _ rfl).2 (As := [.int p1]) (rest := []) ⟨hx, hb, hml, hown, hts⟩ (met_J5_append_c97b9 l hst D C q p1 tp tn tf tc tl mb2 sb2 H.size _ hwp) (va_cwSU 1 hts gc_J4_53 rfl rfl rfl (by decide +kernel) ⟨Nat.le_of_ble_eq_true rfl, Nat.le_of_ble_eq_true rfl⟩) ⟨fun a U g mk q => by obtain ⟨q0, q1, qP, qK, qD, qT⟩ := q; exact ⟨q0, q1, qP, va_K.moved (u := U) (U := U.calling g mk a) (Vm.Alike.refl U.vm) qK, qD, qT.mv (U := U.calling g mk a) (State.WarmedH.refl U)⟩, va_recv hK hPc (ci := 12) (q0 := 0) rfl rfl, fun U hU hW => ⟨rfl, by rw [hU], by rw [hU]; exact hPc, va_K.moved hW.alike hK, hDc.weaken (fun _ _ _ _ => trivial), hT.call hS hFc hU hW⟩⟩ rfl rfl hl.1 rfl (lv_room (Nat.le_of_ble_eq_true rfl)) dJ4_append_bf812_2 ⟨hbk.1, hbk.2⟩) hS (fun q _ h => hFc q h) hFc (fun u ra t H1 locs ht hvm hwp hB hz1 hk1 hS => ?_)
  obtain ⟨u2_1, u2_2, u2_3, u2_4⟩ := u
  obtain ⟨hra, hP1, -, hD1⟩ := hB
  have hra := hra.symm
  subst hra
  rw [ht] at hP1
  obtain ⟨hP, hD⟩ := va_join (wr := []) (w1 := [(q, .inr (12, [.ref u2_1, .int 0, .int tl, .int u2_4])), (u2_1, .inl (C 1, u2_2, .inl u2_3))]) hP hD [0, 1] [] rfl rfl (by decide) (by decide) hk1 hFc hP1 hD1
  generalize H1 = H at hP hS ⊢
  have hP : va_P D vwCl [(q, .inr (12, [.ref u2_1, .int 0, .int tl, .int u2_4])), (u2_1, .inl (C 1, u2_2, .inl u2_3))] H := hP
  have hD : va_D A [(q, .inr (12, [.ref u2_1, .int 0, .int tl, .int u2_4])), (u2_1, .inl (C 1, u2_2, .inl u2_3))] := hD
  refine lv_pop hx hb dJ4_append_bf812_5 rfl ?_
  refine lv_aload_n hx hb dJ4_append_bf812_6 rfl (lv_at hl 0 rfl) ?_
  obtain ⟨hbk, hwp⟩ := hwp
  have hP9 := hP.sub (ws' := [(q, .inr (12, [.ref u2_1, .int 0, .int tl, .int u2_4])), (u2_1, .inl (C 1, u2_2, .inl u2_3))]) [0, 1] rfl
  have hD9 := hD.sub (ws' := [(q, .inr (12, [.ref u2_1, .int 0, .int tl, .int u2_4])), (u2_1, .inl (C 1, u2_2, .inl u2_3))]) [0, 1] (by decide) rfl
  refine W.widen (k := mc) (n := ms) hbk.1 hbk.2 ?_
  exact W.aret (v := .ref q) (rt := (.object "java/lang/StringBuilder")) hx hb hr (Or.inl ⟨_, rfl⟩) (Or.inr ⟨_, rfl⟩) (fun t ht hW => ⟨⟨(u2_1, u2_2, u2_3, u2_4), q, rfl, hwp, rfl, by rw [ht]; exact hP9, va_K.moved hW.alike hK, hD9⟩, hS.F ht⟩) hS.2.2 dJ4_append_bf812_7

abbrev ws_J5_getValue_6d5f1 : List Cond := .code yJ5_getValue_6d5f1 cJ5_getValue_6d5f1 1 (some (.array .byte)) :: WALL
abbrev rm_J5_getValue_6d5f1 : Room := { frames := 0, cells := 0, slots := 0, locals := 0 }
abbrev w_J5_getValue_6d5f1 (C : Nat → ClassId) (q : Nat) (tp : Nat) (tn : Nat) (tf : Nat → Int32) (tc : Int32) (tl : Int32) : va_W := [(q, .inr (12, [.ref tp, .int 0, .int tl, .int tc])), (tp, .inl (C 1, tn, .inl tf))]
abbrev q_J5_getValue_6d5f1 (D : va_G) (C : Nat → ClassId) (q : Nat) (tp : Nat) (tn : Nat) (tf : Nat → Int32) (tc : Int32) (tl : Int32) (Q : Prop) (A : Nat → Prop) : Array Value → State → Outcome → State → Prop := va_Qr (fun (u : Unit) => Q) (fun (u : Unit) (a : Nat) (t : State) => a = tp ∧ va_P D vwCl (w_J5_getValue_6d5f1 C q tp tn tf tc tl) t.heap ∧ va_K D vwCl (tyL C) t ∧ va_D A (w_J5_getValue_6d5f1 C q tp tn tf tc tl)) A
set_option maxHeartbeats 4000000 in
set_option maxRecDepth 100000 in
theorem met_J5_getValue_6d5f1 (l : Launch) (hst : l.stackTraces = false) (D : va_G) (C : Nat → ClassId) (q : Nat) (tp : Nat) (tn : Nat) (tf : Nat → Int32) (tc : Int32) (tl : Int32) (sz : Nat) (Q : Prop) (hwp : wp_J5_getValue_6d5f1 tp tn tf tc tl Q) : Met l yJ5_getValue_6d5f1 ws_J5_getValue_6d5f1 rm_J5_getValue_6d5f1 (va_Pc [.ref q] (fun U => U.heap.size = sz ∧ va_P D vwCl (w_J5_getValue_6d5f1 C q tp tn tf tc tl) U.heap ∧ va_K D vwCl (tyL C) U ∧ va_D (fun _ => True) (w_J5_getValue_6d5f1 C q tp tn tf tc tl) ∧ TX (va_A (w_J5_getValue_6d5f1 C q tp tn tf tc tl) sz) U U.heap)) (q_J5_getValue_6d5f1 D C q tp tn tf tc tl Q (va_A (w_J5_getValue_6d5f1 C q tp tn tf tc tl) sz)) 0 0 (va_A (w_J5_getValue_6d5f1 C q tp tn tf tc tl) sz) := by
  refine Met.ofW (cc := cJ5_getValue_6d5f1) (maxL := 1) (ret := (some (.array .byte))) (by decide) rfl ?_
  intro p e s m args below meth c s₁ B hml hv
  obtain ⟨rfl, hsz, hP, hK, hD0, hT⟩ := hv
  have hx := B.exec
  have hb := B.bytes
  have hr := B.returns
  have hts : ∀ w ∈ WALL, w.before _ s = true := fun w h => atoms_spec (ws := ws_J5_getValue_6d5f1) B.pre w (List.mem_cons_of_mem _ h)
  have hown : s.vm.findClass RJ5 = some m.cls := findClass_of_methodNamed B.named
  have hlocks := B.notSynchronized
  subst hsz
  have hD := hD0.self (sz := s.heap.size)
  generalize hAe : va_A (w_J5_getValue_6d5f1 C q tp tn tf tc tl) s.heap.size = A at hD ⊢ hT
  have hA : ∀ q : Nat, s.heap.size ≤ q → A q := fun q h => by rw [← hAe]; exact Or.inr h
  have hS : va_S A s.heap s.heap [] := va_S.rf
  have hl := lv_entry ([.ref q]) (n := 1) (Nat.le_of_ble_eq_true rfl)
  rw [lg_entry_eq]
  generalize (lg_sl ([.ref q]) ++ List.replicate (1 - (lg_sl ([.ref q])).length) Slot.unset).toArray = ls at hl ⊢
  have hl : lv_has ls 1 [(0, .ref q)] := hl
  unfold wp_J5_getValue_6d5f1 at hwp
  obtain ⟨H, hH⟩ : ∃ H, H = s.heap := ⟨_, rfl⟩
  obtain ⟨locs, hlo⟩ : ∃ z : List Loc, z = [] := ⟨_, rfl⟩
  have hP : va_P D vwCl [(q, .inr (12, [.ref tp, .int 0, .int tl, .int tc])), (tp, .inl (C 1, tn, .inl tf))] H := by rw [hH]; exact hP
  have hD : va_D A [(q, .inr (12, [.ref tp, .int 0, .int tl, .int tc])), (tp, .inl (C 1, tn, .inl tf))] := hD
  have hS : va_S A s.heap H locs := by rw [hH, hlo]; exact hS
  suffices K : W p l e (headSpec ws_J5_getValue_6d5f1 rm_J5_getValue_6d5f1).room s m ([.ref q] : List Value).toArray below meth c H locs 0 0 (MQ below (q_J5_getValue_6d5f1 D C q tp tn tf tc tl Q A) ([.ref q] : List Value).toArray s 0 0 A) (F0 m 0 ls []) from by rw [hH, hlo] at K; exact K
  refine lv_aload_n hx hb dJ5_getValue_6d5f1_0 rfl (lv_at hl 0 rfl) ?_
  refine va_get (D := D) (ci := 12) (v := .ref tp) (C := RJ4) (T := TJ4) (N := 4) hx hb hts iwJ4 hown hK hP 0 rfl rfl 0 (by decide) (hts (.fieldLink RJ5 15 "java/lang/AbstractStringBuilder" "value" "[B") wd_713) (fun _ h9 => h9) rfl dJ5_getValue_6d5f1_1 ?_
  have hP9 := hP.sub (ws' := [(q, .inr (12, [.ref tp, .int 0, .int tl, .int tc])), (tp, .inl (C 1, tn, .inl tf))]) [0, 1] rfl
  have hD9 := hD.sub (ws' := [(q, .inr (12, [.ref tp, .int 0, .int tl, .int tc])), (tp, .inl (C 1, tn, .inl tf))]) [0, 1] (by decide) rfl
  exact W.aret (v := .ref tp) (rt := (.array .byte)) hx hb hr (Or.inr ⟨_, rfl⟩) (Or.inr ⟨_, rfl⟩) (fun t ht hW => ⟨⟨(), tp, rfl, hwp, rfl, by rw [ht]; exact hP9, va_K.moved hW.alike hK, hD9⟩, hS.F ht⟩) hS.2.2 dJ5_getValue_6d5f1_4

abbrev ws_J5_length_8abf5 : List Cond := .code yJ5_length_8abf5 cJ5_length_8abf5 1 (some .int) :: WALL
abbrev rm_J5_length_8abf5 : Room := { frames := 0, cells := 0, slots := 0, locals := 0 }
abbrev w_J5_length_8abf5 (C : Nat → ClassId) (q : Nat) (tp : Nat) (tn : Nat) (tf : Nat → Int32) (tc : Int32) (tl : Int32) : va_W := [(q, .inr (12, [.ref tp, .int 0, .int tl, .int tc])), (tp, .inl (C 1, tn, .inl tf))]
abbrev q_J5_length_8abf5 (D : va_G) (C : Nat → ClassId) (q : Nat) (tp : Nat) (tn : Nat) (tf : Nat → Int32) (tc : Int32) (tl : Int32) (Q : Int32 → Prop) (A : Nat → Prop) : Array Value → State → Outcome → State → Prop := va_Qi (fun (r : Int32) (u : Unit) => Q r) (fun (u : Unit) (t : State) => va_P D vwCl (w_J5_length_8abf5 C q tp tn tf tc tl) t.heap ∧ va_K D vwCl (tyL C) t ∧ va_D A (w_J5_length_8abf5 C q tp tn tf tc tl)) A
set_option maxHeartbeats 4000000 in
set_option maxRecDepth 100000 in
theorem met_J5_length_8abf5 (l : Launch) (hst : l.stackTraces = false) (D : va_G) (C : Nat → ClassId) (q : Nat) (tp : Nat) (tn : Nat) (tf : Nat → Int32) (tc : Int32) (tl : Int32) (sz : Nat) (Q : Int32 → Prop) (hwp : wp_J5_length_8abf5 tp tn tf tc tl Q) : Met l yJ5_length_8abf5 ws_J5_length_8abf5 rm_J5_length_8abf5 (va_Pc [.ref q] (fun U => U.heap.size = sz ∧ va_P D vwCl (w_J5_length_8abf5 C q tp tn tf tc tl) U.heap ∧ va_K D vwCl (tyL C) U ∧ va_D (fun _ => True) (w_J5_length_8abf5 C q tp tn tf tc tl) ∧ TX (va_A (w_J5_length_8abf5 C q tp tn tf tc tl) sz) U U.heap)) (q_J5_length_8abf5 D C q tp tn tf tc tl Q (va_A (w_J5_length_8abf5 C q tp tn tf tc tl) sz)) 0 0 (va_A (w_J5_length_8abf5 C q tp tn tf tc tl) sz) := by
  refine Met.ofW (cc := cJ5_length_8abf5) (maxL := 1) (ret := (some .int)) (by decide) rfl ?_
  intro p e s m args below meth c s₁ B hml hv
  obtain ⟨rfl, hsz, hP, hK, hD0, hT⟩ := hv
  have hx := B.exec
  have hb := B.bytes
  have hr := B.returns
  have hts : ∀ w ∈ WALL, w.before _ s = true := fun w h => atoms_spec (ws := ws_J5_length_8abf5) B.pre w (List.mem_cons_of_mem _ h)
  have hown : s.vm.findClass RJ5 = some m.cls := findClass_of_methodNamed B.named
  have hlocks := B.notSynchronized
  subst hsz
  have hD := hD0.self (sz := s.heap.size)
  generalize hAe : va_A (w_J5_length_8abf5 C q tp tn tf tc tl) s.heap.size = A at hD ⊢ hT
  have hA : ∀ q : Nat, s.heap.size ≤ q → A q := fun q h => by rw [← hAe]; exact Or.inr h
  have hS : va_S A s.heap s.heap [] := va_S.rf
  have hl := lv_entry ([.ref q]) (n := 1) (Nat.le_of_ble_eq_true rfl)
  rw [lg_entry_eq]
  generalize (lg_sl ([.ref q]) ++ List.replicate (1 - (lg_sl ([.ref q])).length) Slot.unset).toArray = ls at hl ⊢
  have hl : lv_has ls 1 [(0, .ref q)] := hl
  unfold wp_J5_length_8abf5 at hwp
  obtain ⟨H, hH⟩ : ∃ H, H = s.heap := ⟨_, rfl⟩
  obtain ⟨locs, hlo⟩ : ∃ z : List Loc, z = [] := ⟨_, rfl⟩
  have hP : va_P D vwCl [(q, .inr (12, [.ref tp, .int 0, .int tl, .int tc])), (tp, .inl (C 1, tn, .inl tf))] H := by rw [hH]; exact hP
  have hD : va_D A [(q, .inr (12, [.ref tp, .int 0, .int tl, .int tc])), (tp, .inl (C 1, tn, .inl tf))] := hD
  have hS : va_S A s.heap H locs := by rw [hH, hlo]; exact hS
  suffices K : W p l e (headSpec ws_J5_length_8abf5 rm_J5_length_8abf5).room s m ([.ref q] : List Value).toArray below meth c H locs 0 0 (MQ below (q_J5_length_8abf5 D C q tp tn tf tc tl Q A) ([.ref q] : List Value).toArray s 0 0 A) (F0 m 0 ls []) from by rw [hH, hlo] at K; exact K
  refine lv_aload_n hx hb dJ5_length_8abf5_0 rfl (lv_at hl 0 rfl) ?_
  refine va_get (D := D) (ci := 12) (v := .int tc) (C := RJ4) (T := TJ4) (N := 4) hx hb hts iwJ4 hown hK hP 0 rfl rfl 3 (by decide) (hts (.fieldLink RJ5 79 "java/lang/AbstractStringBuilder" "count" "I") wd_716) (fun _ h9 => h9) rfl dJ5_length_8abf5_1 ?_
  have hP9 := hP.sub (ws' := [(q, .inr (12, [.ref tp, .int 0, .int tl, .int tc])), (tp, .inl (C 1, tn, .inl tf))]) [0, 1] rfl
  have hD9 := hD.sub (ws' := [(q, .inr (12, [.ref tp, .int 0, .int tl, .int tc])), (tp, .inl (C 1, tn, .inl tf))]) [0, 1] (by decide) rfl
  exact W.iret (v := tc) hx hb hr (fun t ht hW => ⟨⟨tc, (), rfl, hwp, by rw [ht]; exact hP9, va_K.moved hW.alike hK, hD9⟩, hS.F ht⟩) hS.2.2 dJ5_length_8abf5_4

abbrev ws_J4_length_8abf5 : List Cond := .code yJ4_length_8abf5 cJ4_length_8abf5 1 (some .int) :: WALL
theorem gc_J4_343 : GoodIn WALL (va_wsSU RJ4 343 yJ5_length_8abf5 ws_J5_length_8abf5) := gc_su wd_785 wd_781 wd_610 wd_780 wd_46 wd_786
abbrev rm_J4_length_8abf5 : Room := { frames := 1, cells := 0, slots := 0, locals := 20 }
abbrev w_J4_length_8abf5 (C : Nat → ClassId) (q : Nat) (tp : Nat) (tn : Nat) (tf : Nat → Int32) (tc : Int32) (tl : Int32) : va_W := [(q, .inr (12, [.ref tp, .int 0, .int tl, .int tc])), (tp, .inl (C 1, tn, .inl tf))]
abbrev q_J4_length_8abf5 (D : va_G) (C : Nat → ClassId) (q : Nat) (tp : Nat) (tn : Nat) (tf : Nat → Int32) (tc : Int32) (tl : Int32) (Q : Int32 → Prop) (A : Nat → Prop) : Array Value → State → Outcome → State → Prop := va_Qi (fun (r : Int32) (u : Unit) => Q r) (fun (u : Unit) (t : State) => va_P D vwCl (w_J4_length_8abf5 C q tp tn tf tc tl) t.heap ∧ va_K D vwCl (tyL C) t ∧ va_D A (w_J4_length_8abf5 C q tp tn tf tc tl)) A
set_option maxHeartbeats 4000000 in
set_option maxRecDepth 100000 in
theorem met_J4_length_8abf5 (l : Launch) (hst : l.stackTraces = false) (D : va_G) (C : Nat → ClassId) (q : Nat) (tp : Nat) (tn : Nat) (tf : Nat → Int32) (tc : Int32) (tl : Int32) (sz : Nat) (Q : Int32 → Prop) (hwp : wp_J4_length_8abf5 tp tn tf tc tl Q) : Met l yJ4_length_8abf5 ws_J4_length_8abf5 rm_J4_length_8abf5 (va_Pc [.ref q] (fun U => U.heap.size = sz ∧ va_P D vwCl (w_J4_length_8abf5 C q tp tn tf tc tl) U.heap ∧ va_K D vwCl (tyL C) U ∧ va_D (fun _ => True) (w_J4_length_8abf5 C q tp tn tf tc tl) ∧ TX (va_A (w_J4_length_8abf5 C q tp tn tf tc tl) sz) U U.heap)) (q_J4_length_8abf5 D C q tp tn tf tc tl Q (va_A (w_J4_length_8abf5 C q tp tn tf tc tl) sz)) 0 0 (va_A (w_J4_length_8abf5 C q tp tn tf tc tl) sz) := by
  refine Met.ofW (cc := cJ4_length_8abf5) (maxL := 1) (ret := (some .int)) (by decide) rfl ?_
  intro p e s m args below meth c s₁ B hml hv
  obtain ⟨rfl, hsz, hP, hK, hD0, hT⟩ := hv
  have hx := B.exec
  have hb := B.bytes
  have hr := B.returns
  have hts : ∀ w ∈ WALL, w.before _ s = true := fun w h => atoms_spec (ws := ws_J4_length_8abf5) B.pre w (List.mem_cons_of_mem _ h)
  have hown : s.vm.findClass RJ4 = some m.cls := findClass_of_methodNamed B.named
  have hlocks := B.notSynchronized
  subst hsz
  have hD := hD0.self (sz := s.heap.size)
  generalize hAe : va_A (w_J4_length_8abf5 C q tp tn tf tc tl) s.heap.size = A at hD ⊢ hT
  have hA : ∀ q : Nat, s.heap.size ≤ q → A q := fun q h => by rw [← hAe]; exact Or.inr h
  have hS : va_S A s.heap s.heap [] := va_S.rf
  have hl := lv_entry ([.ref q]) (n := 1) (Nat.le_of_ble_eq_true rfl)
  rw [lg_entry_eq]
  generalize (lg_sl ([.ref q]) ++ List.replicate (1 - (lg_sl ([.ref q])).length) Slot.unset).toArray = ls at hl ⊢
  have hl : lv_has ls 1 [(0, .ref q)] := hl
  unfold wp_J4_length_8abf5 at hwp
  obtain ⟨H, hH⟩ : ∃ H, H = s.heap := ⟨_, rfl⟩
  obtain ⟨locs, hlo⟩ : ∃ z : List Loc, z = [] := ⟨_, rfl⟩
  have hP : va_P D vwCl [(q, .inr (12, [.ref tp, .int 0, .int tl, .int tc])), (tp, .inl (C 1, tn, .inl tf))] H := by rw [hH]; exact hP
  have hD : va_D A [(q, .inr (12, [.ref tp, .int 0, .int tl, .int tc])), (tp, .inl (C 1, tn, .inl tf))] := hD
  have hS : va_S A s.heap H locs := by rw [hH, hlo]; exact hS
  suffices K : W p l e (headSpec ws_J4_length_8abf5 rm_J4_length_8abf5).room s m ([.ref q] : List Value).toArray below meth c H locs 0 0 (MQ below (q_J4_length_8abf5 D C q tp tn tf tc tl Q A) ([.ref q] : List Value).toArray s 0 0 A) (F0 m 0 ls []) from by rw [hH, hlo] at K; exact K
  refine lv_aload_n hx hb dJ4_length_8abf5_0 rfl (lv_at hl 0 rfl) ?_
  have hPc := hP.sub (ws' := [(q, .inr (12, [.ref tp, .int 0, .int tl, .int tc])), (tp, .inl (C 1, tn, .inl tf))]) [0, 1] rfl
  have hDc := hD.sub (ws' := [(q, .inr (12, [.ref tp, .int 0, .int tl, .int tc])), (tp, .inl (C 1, tn, .inl tf))]) [0, 1] (by decide) rfl
  have hFc := va_free (wc := [(q, .inr (12, [.ref tp, .int 0, .int tl, .int tc])), (tp, .inl (C 1, tn, .inl tf))]) hD hS hA [0, 1] rfl
  refine va_calli (va_runSU (hK.1 12 _ rfl).2 (As := []) (rest := []) ⟨hx, hb, hml, hown, hts⟩ (met_J5_length_8abf5 l hst D C q tp tn tf tc tl H.size _ hwp) (va_cwSU 0 hts gc_J4_343 rfl rfl rfl (by decide +kernel) ⟨Nat.le_of_ble_eq_true rfl, Nat.le_of_ble_eq_true rfl⟩) ⟨fun a U g mk q => by obtain ⟨q0, q1, qP, qK, qD, qT⟩ := q; exact ⟨q0, q1, qP, va_K.moved (u := U) (U := U.calling g mk a) (Vm.Alike.refl U.vm) qK, qD, qT.mv (U := U.calling g mk a) (State.WarmedH.refl U)⟩, va_recv hK hPc (ci := 12) (q0 := 0) rfl rfl, fun U hU hW => ⟨rfl, by rw [hU], by rw [hU]; exact hPc, va_K.moved hW.alike hK, hDc.weaken (fun _ _ _ _ => trivial), hT.call hS hFc hU hW⟩⟩ rfl rfl hl.1 rfl (lv_room (Nat.le_of_ble_eq_true rfl)) dJ4_length_8abf5_1 ⟨Nat.le_of_ble_eq_true rfl, Nat.le_of_ble_eq_true rfl⟩) hS (fun q _ h => hFc q h) hFc (fun r1 u t H1 locs ht hvm hwp hB hz1 hk1 hS => ?_)
  obtain ⟨hP1, -, hD1⟩ := hB
  rw [ht] at hP1
  obtain ⟨hP, hD⟩ := va_join (wr := []) (w1 := [(q, .inr (12, [.ref tp, .int 0, .int tl, .int tc])), (tp, .inl (C 1, tn, .inl tf))]) hP hD [0, 1] [] rfl rfl (by decide) (by decide) hk1 hFc hP1 hD1
  generalize H1 = H at hP hS ⊢
  have hP : va_P D vwCl [(q, .inr (12, [.ref tp, .int 0, .int tl, .int tc])), (tp, .inl (C 1, tn, .inl tf))] H := hP
  have hD : va_D A [(q, .inr (12, [.ref tp, .int 0, .int tl, .int tc])), (tp, .inl (C 1, tn, .inl tf))] := hD
  have hP9 := hP.sub (ws' := [(q, .inr (12, [.ref tp, .int 0, .int tl, .int tc])), (tp, .inl (C 1, tn, .inl tf))]) [0, 1] rfl
  have hD9 := hD.sub (ws' := [(q, .inr (12, [.ref tp, .int 0, .int tl, .int tc])), (tp, .inl (C 1, tn, .inl tf))]) [0, 1] (by decide) rfl
  exact W.iret (v := r1) hx hb hr (fun t ht hW => ⟨⟨r1, (), rfl, hwp, by rw [ht]; exact hP9, va_K.moved hW.alike hK, hD9⟩, hS.F ht⟩) hS.2.2 dJ4_length_8abf5_4

