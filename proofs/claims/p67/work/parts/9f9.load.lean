abbrev ws_L_load : List Cond := .code yL_load cL_load 13 (some .boolean) :: WALL
theorem gc_L_40 : GoodIn WALL (va_wsS RL 40 yL_draw ws_L_draw) := gc_s wd_562 wd_563 wd_34 wd_564
theorem gc_J4_init_a7421 : GoodIn WALL ws_J4_init_a7421 := gc_0 wd_574
theorem gc_L_51 : GoodIn WALL (wsV RL 51 RJ4 yJ4_append_bf812 ws_J4_append_bf812) := gc_v wd_725 wd_726 wd_727 wd_47 wx_728_0
theorem gc_L_56 : GoodIn WALL (wsV RL 56 RJ4 yJ4_append_15ec4 ws_J4_append_15ec4) := gc_v wd_751 wd_606 wd_607 wd_47 wx_608_0
theorem gc_L_77 : GoodIn WALL (wsV RL 77 RJ4 yJ4_toString_0e30d ws_J4_toString_0e30d) := gc_v wd_761 wd_762 wd_763 wd_47 wx_764_0
theorem gc_L_81 : GoodIn WALL (va_wsS RL 81 yL_feed ws_L_feed) := gc_s wd_821 wd_822 wd_34 wd_823
theorem gc_L_85 : GoodIn WALL (wsV RL 85 RX10 yX10_load ws_X10_load) := gc_v wd_882 wd_883 wd_884 wd_35 wd_885
theorem gc_L_88 : GoodIn WALL (wsV RL 88 RX10 yX10_errorCode ws_X10_errorCode) := gc_v wd_974 wd_975 wd_976 wd_35 wd_977
theorem gc_L_91 : GoodIn WALL (wsV RL 91 RX10 yX10_errorPosition ws_X10_errorPosition) := gc_v wd_978 wd_979 wd_980 wd_35 wd_981
abbrev rm_L_load : Room := { frames := 10, cells := 3000, slots := 6000, locals := 218 }
abbrev w_L_load (C : Nat → ClassId) (ad : Nat → Nat) (q1 : Nat) (sn1 : Nat) (sx1 : Nat → Int32) (d : DT) : va_W := ([] ++ wK C ad d)
abbrev q_L_load (D : va_G) (C : Nat → ClassId) (ad : Nat → Nat) (q1 : Nat) (sn1 : Nat) (sx1 : Nat → Int32) (Q : Int32 → DT → Prop) (A : Nat → Prop) : Array Value → State → Outcome → State → Prop := va_Qi (fun (r : Int32) (u : DT) => Q r u) (fun (u : DT) (t : State) => va_P D vwCl (w_L_load C ad q1 sn1 sx1 u) t.heap ∧ va_K D vwCl (tyL C) t ∧ va_D A (w_L_load C ad q1 sn1 sx1 u)) A
set_option maxHeartbeats 4000000 in
set_option maxRecDepth 100000 in
theorem met_L_load (l : Launch) (hst : l.stackTraces = false) (D : va_G) (C : Nat → ClassId) (ad : Nat → Nat) (q1 : Nat) (sn1 : Nat) (sx1 : Nat → Int32) (d : DT) (sz : Nat) (Q : Int32 → DT → Prop) (hwp : wp_L_load sn1 sx1 d Q) : Met l yL_load ws_L_load rm_L_load (va_Pc [.ref (ad 0), .ref q1] (fun U => U.heap.size = sz ∧ va_P D vwCl (w_L_load C ad q1 sn1 sx1 d) U.heap ∧ va_K D vwCl (tyL C) U ∧ va_D (fun _ => True) (w_L_load C ad q1 sn1 sx1 d) ∧ TX (va_A (w_L_load C ad q1 sn1 sx1 d) sz) U U.heap ∧ ScrC sn1 sx1 q1 (va_A (w_L_load C ad q1 sn1 sx1 d) sz) U U.heap)) (q_L_load D C ad q1 sn1 sx1 Q (va_A (w_L_load C ad q1 sn1 sx1 d) sz)) 3000 6000 (va_A (w_L_load C ad q1 sn1 sx1 d) sz) := by
  refine Met.ofW (cc := cL_load) (maxL := 13) (ret := (some .boolean)) (by decide) rfl ?_
  intro p e s m args below meth c s₁ B hml hv
  obtain ⟨rfl, hsz, hP, hK, hD0, hT, hs_q1⟩ := hv
  have hx := B.exec
  have hb := B.bytes
  have hr := B.returns
  have hts : ∀ w ∈ WALL, w.before _ s = true := fun w h => atoms_spec (ws := ws_L_load) B.pre w (List.mem_cons_of_mem _ h)
  have hown : s.vm.findClass RL = some m.cls := findClass_of_methodNamed B.named
  have hlocks := B.notSynchronized
  subst hsz
  have hD := hD0.self (sz := s.heap.size)
  generalize hAe : va_A (w_L_load C ad q1 sn1 sx1 d) s.heap.size = A at hD ⊢ hT hs_q1
  have hA : ∀ q : Nat, s.heap.size ≤ q → A q := fun q h => by rw [← hAe]; exact Or.inr h
  have hS : va_S A s.heap s.heap [] := va_S.rf
  have hl := lv_entry ([.ref (ad 0), .ref q1]) (n := 13) (Nat.le_of_ble_eq_true rfl)
  rw [lg_entry_eq]
  generalize (lg_sl ([.ref (ad 0), .ref q1]) ++ List.replicate (13 - (lg_sl ([.ref (ad 0), .ref q1])).length) Slot.unset).toArray = ls at hl ⊢
  have hl : lv_has ls 13 [(0, .ref (ad 0)), (1, .ref q1)] := hl
  have HL87 : ∀ (a25 : Nat) (x2 : Int32) (x3 : Int32) (d : DT) (tla25 : Int32) (k167 : Nat → Nat → (Nat → Int32) → Int32 → Prop) (hk167 : ∀ (tpa25 : Nat) (tna25 : Nat) (tfa25 : Nat → Int32) (tca25 : Int32) (H : Heap) (locs : List Loc) (ls : Array Slot), lv_has ls 13 [(0, .ref (ad 0)), (1, .ref q1), (2, .int x2), (3, .int x3), (4, .ref a25)] → va_P D vwCl ([(a25, .inr (12, [.ref tpa25, .int 0, .int tla25, .int tca25])), (tpa25, .inl (C 1, tna25, .inl tfa25))] ++ wK C ad d) H → va_D A ([(a25, .inr (12, [.ref tpa25, .int 0, .int tla25, .int tca25])), (tpa25, .inl (C 1, tna25, .inl tfa25))] ++ wK C ad d) → va_S A s.heap H locs → k167 tpa25 tna25 tfa25 tca25 → W p l e (headSpec ws_L_load rm_L_load).room s m ([.ref (ad 0), .ref q1] : List Value).toArray below meth c H locs (8 + tna25) (100 + 2 * tna25) (MQ below (q_L_load D C ad q1 sn1 sx1 Q A) ([.ref (ad 0), .ref q1] : List Value).toArray s 3000 6000 A) (F0 m 167 ls [])) (n87 : Nat) (x5 : Int32) (tpa25 : Nat) (tna25 : Nat) (tfa25 : Nat → Int32) (tca25 : Int32) (H : Heap) (locs : List Loc) (ls : Array Slot), lv_has ls 13 [(0, .ref (ad 0)), (1, .ref q1), (2, .int x2), (3, .int x3), (4, .ref a25), (5, .int x5)] → va_P D vwCl ([(a25, .inr (12, [.ref tpa25, .int 0, .int tla25, .int tca25])), (tpa25, .inl (C 1, tna25, .inl tfa25))] ++ wK C ad d) H → va_D A ([(a25, .inr (12, [.ref tpa25, .int 0, .int tla25, .int tca25])), (tpa25, .inl (C 1, tna25, .inl tfa25))] ++ wK C ad d) → va_S A s.heap H locs → wp_L_load_L87 sn1 sx1 x2 x3 d tla25 k167 Q n87 x5 tpa25 tna25 tfa25 tca25 → W p l e (headSpec ws_L_load rm_L_load).room s m ([.ref (ad 0), .ref q1] : List Value).toArray below meth c H locs (8 + tna25) (100 + 2 * tna25) (MQ below (q_L_load D C ad q1 sn1 sx1 Q A) ([.ref (ad 0), .ref q1] : List Value).toArray s 3000 6000 A) (F0 m 87 ls []) := by
    intro a25 x2 x3 d tla25 k167 hk167 n87
    induction n87 with
    | zero =>
      intro x5 tpa25 tna25 tfa25 tca25 H locs ls hl hP hD hS hwp
      exact False.elim hwp
    | succ n87 ih =>
      intro x5 tpa25 tna25 tfa25 tca25 H locs ls hl hP hD hS hwp
      unfold wp_L_load_L87 at hwp
      refine lv_iload hx hb dL_load_87 (lv_at hl 5 rfl) ?_
      refine lv_iload_n hx hb dL_load_89 rfl (lv_at hl 2 rfl) ?_
      refine lv_icmp_ge (tgt := 167) hx hb dL_load_90 (by decide) (fun c90 => ?_) (fun c90 => ?_)
      · have hwp := hwp.1 c90
        obtain ⟨hbk, hwp⟩ := hwp
        refine W.widen (k := (8 + tna25)) (n := (100 + 2 * tna25)) hbk.1 hbk.2 ?_
        have hl9 := lv_sub (l' := [(0, .ref (ad 0)), (1, .ref q1), (2, .int x2), (3, .int x3), (4, .ref a25)]) hl [0, 1, 2, 3, 4] rfl
        have hP9 : va_P D vwCl ([(a25, .inr (12, [.ref tpa25, .int 0, .int tla25, .int tca25])), (tpa25, .inl (C 1, tna25, .inl tfa25))] ++ wK C ad d) H := bd_P (lc := [(a25, .inr (12, [.ref tpa25, .int 0, .int tla25, .int tca25])), (tpa25, .inl (C 1, tna25, .inl tfa25))]) hP [0, 1] rfl
        have hD9 : va_D A ([(a25, .inr (12, [.ref tpa25, .int 0, .int tla25, .int tca25])), (tpa25, .inl (C 1, tna25, .inl tfa25))] ++ wK C ad d) := bd_D (lc := [(a25, .inr (12, [.ref tpa25, .int 0, .int tla25, .int tca25])), (tpa25, .inl (C 1, tna25, .inl tfa25))]) hD [0, 1] rfl (by decide)
        exact hk167 tpa25 tna25 tfa25 tca25 H locs ls hl9 hP9 hD9 hS hwp
      · have hwp := hwp.2 c90
        refine lv_aload hx hb dL_load_93 (lv_at hl 4 rfl) ?_
        obtain ⟨sa95, hr_sa95, hs_sa95⟩ := hT.2.2.2.2.2.1 ("ParetoDeskLaw", 61, "item weight ", [105, 116, 101, 109, 32, 119, 101, 105, 103, 104, 116, 32]) (by decide)
        refine va_ldcS (own := RL) (tx := "item weight ") hx hb hown hr_sa95 dL_load_95 ?_
        have hPc := hP.sub (ws' := [(a25, .inr (12, [.ref tpa25, .int 0, .int tla25, .int tca25])), (tpa25, .inl (C 1, tna25, .inl tfa25))]) [0, 1] rfl
        have hDc := hD.sub (ws' := [(a25, .inr (12, [.ref tpa25, .int 0, .int tla25, .int tca25])), (tpa25, .inl (C 1, tna25, .inl tfa25))]) [0, 1] (by decide) rfl
        have hFc := va_free (wc := [(a25, .inr (12, [.ref tpa25, .int 0, .int tla25, .int tca25])), (tpa25, .inl (C 1, tna25, .inl tfa25))]) hD hS hA [0, 1] rfl
        obtain ⟨mb97, sb97, hbk, hwp⟩ := hwp
        refine va_callr (va_runV (As := [.ref sa95]) (rest := []) ⟨hx, hb, hml, hown, hts⟩ (met_J4_append_15ec4 l hst D C a25 sa95 ([105, 116, 101, 109, 32, 119, 101, 105, 103, 104, 116, 32]) tpa25 tna25 tfa25 tca25 tla25 mb97 sb97 H.size _ hwp) (cwV 1 hts gc_L_56 rfl rfl rfl (by decide +kernel) ⟨Nat.le_of_ble_eq_true rfl, Nat.le_of_ble_eq_true rfl⟩) ⟨fun a U g mk q => by obtain ⟨q0, q1, qP, qK, qD, qT, qS_q1⟩ := q; exact ⟨q0, q1, qP, va_K.moved (u := U) (U := U.calling g mk a) (Vm.Alike.refl U.vm) qK, qD, qT.mv (U := U.calling g mk a) (State.WarmedH.refl U), qS_q1.moved (U := U.calling g mk a) (Vm.Alike.refl U.vm)⟩, va_recv hK hPc (ci := 12) (q0 := 0) rfl rfl, fun U hU hW => ⟨rfl, by rw [hU], by rw [hU]; exact hPc, va_K.moved hW.alike hK, hDc.weaken (fun _ _ _ _ => trivial), hT.call hS hFc hU hW, hs_sa95.call hS hFc hU hW⟩⟩ rfl rfl hl.1 rfl (lv_room (Nat.le_of_ble_eq_true rfl)) dL_load_97 ⟨hbk.1, hbk.2⟩) hS (fun q _ h => hFc q h) hFc (fun u ra t H1 locs ht hvm hwp hB hz1 hk1 hS => ?_)
        obtain ⟨u97_22, u97_23, u97_24, u97_25⟩ := u
        obtain ⟨hra, hP1, -, hD1⟩ := hB
        have hra := hra.symm
        subst hra
        rw [ht] at hP1
        obtain ⟨hP, hD⟩ := bd_joinL (lr := []) (l1 := [(a25, .inr (12, [.ref u97_22, .int 0, .int tla25, .int u97_25])), (u97_22, .inl (C 1, u97_23, .inl u97_24))]) hP hD [0, 1] [] rfl rfl (by decide) (by decide) hk1 hFc hP1 hD1
        generalize H1 = H at hP hS ⊢
        have hP : va_P D vwCl ([(a25, .inr (12, [.ref u97_22, .int 0, .int tla25, .int u97_25])), (u97_22, .inl (C 1, u97_23, .inl u97_24))] ++ wK C ad d) H := hP
        have hD : va_D A ([(a25, .inr (12, [.ref u97_22, .int 0, .int tla25, .int u97_25])), (u97_22, .inl (C 1, u97_23, .inl u97_24))] ++ wK C ad d) := hD
        refine lv_aload_n hx hb dL_load_100 rfl (lv_at hl 1 rfl) ?_
        refine lv_bipush (v := 10) hx hb dL_load_101 (by decide) ?_
        refine lv_iconst (v := 3) hx hb dL_load_103 (by decide) ?_
        refine lv_iload hx hb dL_load_104 (lv_at hl 5 rfl) ?_
        refine lv_imul hx hb dL_load_106 ?_
        refine lv_iadd hx hb dL_load_107 ?_
        refine lv_iload_n hx hb dL_load_108 rfl (lv_at hl 3 rfl) ?_
        have hPc := hP.sub (ws' := []) [] rfl
        have hDc := hD.sub (ws' := []) [] (by decide) rfl
        have hFc := va_free (wc := []) hD hS hA [] rfl
        obtain ⟨hbk, hwp⟩ := hwp
        refine va_calli (va_runS (As := [.ref q1, .int ((10 : Int32) + ((3 : Int32) * x5)), .int x3]) (rest := [.ref a25]) ⟨hx, hb, hml, hown, hts⟩ (met_L_draw l hst D C q1 ((10 : Int32) + ((3 : Int32) * x5)) x3 sn1 sx1 H.size _ hwp) (va_cwS 3 hts gc_L_40 rfl rfl rfl (by decide +kernel) ⟨Nat.le_of_ble_eq_true rfl, Nat.le_of_ble_eq_true rfl⟩) ⟨fun a U g mk q => by obtain ⟨q0, q1, qP, qK, qD, qT, qS_q0⟩ := q; exact ⟨q0, q1, qP, va_K.moved (u := U) (U := U.calling g mk a) (Vm.Alike.refl U.vm) qK, qD, qT.mv (U := U.calling g mk a) (State.WarmedH.refl U), qS_q0.moved (U := U.calling g mk a) (Vm.Alike.refl U.vm)⟩, fun U hU hW => ⟨rfl, by rw [hU], by rw [hU]; exact hPc, va_K.moved hW.alike hK, hDc.weaken (fun _ _ _ _ => trivial), hT.call hS hFc hU hW, hs_q1.call hS hFc hU hW⟩⟩ rfl rfl hl.1 rfl (lv_room (Nat.le_of_ble_eq_true rfl)) dL_load_109 ⟨hbk.1, hbk.2⟩) hS (fun q _ h => hFc q h) hFc (fun r109 u t H1 locs ht hvm hwp hB hz1 hk1 hS => ?_)
        obtain ⟨hP1, -, hD1⟩ := hB
        rw [ht] at hP1
        obtain ⟨hP, hD⟩ := bd_joinL (lr := [(a25, .inr (12, [.ref u97_22, .int 0, .int tla25, .int u97_25])), (u97_22, .inl (C 1, u97_23, .inl u97_24))]) (l1 := []) hP hD [] [0, 1] rfl rfl (by decide) (by decide) hk1 hFc hP1 hD1
        generalize H1 = H at hP hS ⊢
        have hP : va_P D vwCl ([(a25, .inr (12, [.ref u97_22, .int 0, .int tla25, .int u97_25])), (u97_22, .inl (C 1, u97_23, .inl u97_24))] ++ wK C ad d) H := hP
        have hD : va_D A ([(a25, .inr (12, [.ref u97_22, .int 0, .int tla25, .int u97_25])), (u97_22, .inl (C 1, u97_23, .inl u97_24))] ++ wK C ad d) := hD
        have hPc := hP.sub (ws' := [(a25, .inr (12, [.ref u97_22, .int 0, .int tla25, .int u97_25])), (u97_22, .inl (C 1, u97_23, .inl u97_24))]) [0, 1] rfl
        have hDc := hD.sub (ws' := [(a25, .inr (12, [.ref u97_22, .int 0, .int tla25, .int u97_25])), (u97_22, .inl (C 1, u97_23, .inl u97_24))]) [0, 1] (by decide) rfl
        have hFc := va_free (wc := [(a25, .inr (12, [.ref u97_22, .int 0, .int tla25, .int u97_25])), (u97_22, .inl (C 1, u97_23, .inl u97_24))]) hD hS hA [0, 1] rfl
        obtain ⟨mb112, sb112, hbk, hwp⟩ := hwp
        refine va_callr (va_runV (As := [.int r109]) (rest := []) ⟨hx, hb, hml, hown, hts⟩ (met_J4_append_bf812 l hst D C a25 r109 u97_22 u97_23 u97_24 u97_25 tla25 mb112 sb112 H.size _ hwp) (cwV 1 hts gc_L_51 rfl rfl rfl (by decide +kernel) ⟨Nat.le_of_ble_eq_true rfl, Nat.le_of_ble_eq_true rfl⟩) ⟨fun a U g mk q => by obtain ⟨q0, q1, qP, qK, qD, qT⟩ := q; exact ⟨q0, q1, qP, va_K.moved (u := U) (U := U.calling g mk a) (Vm.Alike.refl U.vm) qK, qD, qT.mv (U := U.calling g mk a) (State.WarmedH.refl U)⟩, va_recv hK hPc (ci := 12) (q0 := 0) rfl rfl, fun U hU hW => ⟨rfl, by rw [hU], by rw [hU]; exact hPc, va_K.moved hW.alike hK, hDc.weaken (fun _ _ _ _ => trivial), hT.call hS hFc hU hW⟩⟩ rfl rfl hl.1 rfl (lv_room (Nat.le_of_ble_eq_true rfl)) dL_load_112 ⟨hbk.1, hbk.2⟩) hS (fun q _ h => hFc q h) hFc (fun u ra t H1 locs ht hvm hwp hB hz1 hk1 hS => ?_)
        obtain ⟨u112_26, u112_27, u112_28, u112_29⟩ := u
        obtain ⟨hra, hP1, -, hD1⟩ := hB
        have hra := hra.symm
        subst hra
        rw [ht] at hP1
        obtain ⟨hP, hD⟩ := bd_joinL (lr := []) (l1 := [(a25, .inr (12, [.ref u112_26, .int 0, .int tla25, .int u112_29])), (u112_26, .inl (C 1, u112_27, .inl u112_28))]) hP hD [0, 1] [] rfl rfl (by decide) (by decide) hk1 hFc hP1 hD1
        generalize H1 = H at hP hS ⊢
        have hP : va_P D vwCl ([(a25, .inr (12, [.ref u112_26, .int 0, .int tla25, .int u112_29])), (u112_26, .inl (C 1, u112_27, .inl u112_28))] ++ wK C ad d) H := hP
        have hD : va_D A ([(a25, .inr (12, [.ref u112_26, .int 0, .int tla25, .int u112_29])), (u112_26, .inl (C 1, u112_27, .inl u112_28))] ++ wK C ad d) := hD
        obtain ⟨sa115, hr_sa115, hs_sa115⟩ := hT.2.2.2.2.2.1 ("ParetoDeskLaw", 63, " gain ", [32, 103, 97, 105, 110, 32]) (by decide)
        refine va_ldcS (own := RL) (tx := " gain ") hx hb hown hr_sa115 dL_load_115 ?_
        have hPc := hP.sub (ws' := [(a25, .inr (12, [.ref u112_26, .int 0, .int tla25, .int u112_29])), (u112_26, .inl (C 1, u112_27, .inl u112_28))]) [0, 1] rfl
        have hDc := hD.sub (ws' := [(a25, .inr (12, [.ref u112_26, .int 0, .int tla25, .int u112_29])), (u112_26, .inl (C 1, u112_27, .inl u112_28))]) [0, 1] (by decide) rfl
        have hFc := va_free (wc := [(a25, .inr (12, [.ref u112_26, .int 0, .int tla25, .int u112_29])), (u112_26, .inl (C 1, u112_27, .inl u112_28))]) hD hS hA [0, 1] rfl
        obtain ⟨mb117, sb117, hbk, hwp⟩ := hwp
        refine va_callr (va_runV (As := [.ref sa115]) (rest := []) ⟨hx, hb, hml, hown, hts⟩ (met_J4_append_15ec4 l hst D C a25 sa115 ([32, 103, 97, 105, 110, 32]) u112_26 u112_27 u112_28 u112_29 tla25 mb117 sb117 H.size _ hwp) (cwV 1 hts gc_L_56 rfl rfl rfl (by decide +kernel) ⟨Nat.le_of_ble_eq_true rfl, Nat.le_of_ble_eq_true rfl⟩) ⟨fun a U g mk q => by obtain ⟨q0, q1, qP, qK, qD, qT, qS_q1⟩ := q; exact ⟨q0, q1, qP, va_K.moved (u := U) (U := U.calling g mk a) (Vm.Alike.refl U.vm) qK, qD, qT.mv (U := U.calling g mk a) (State.WarmedH.refl U), qS_q1.moved (U := U.calling g mk a) (Vm.Alike.refl U.vm)⟩, va_recv hK hPc (ci := 12) (q0 := 0) rfl rfl, fun U hU hW => ⟨rfl, by rw [hU], by rw [hU]; exact hPc, va_K.moved hW.alike hK, hDc.weaken (fun _ _ _ _ => trivial), hT.call hS hFc hU hW, hs_sa115.call hS hFc hU hW⟩⟩ rfl rfl hl.1 rfl (lv_room (Nat.le_of_ble_eq_true rfl)) dL_load_117 ⟨hbk.1, hbk.2⟩) hS (fun q _ h => hFc q h) hFc (fun u ra t H1 locs ht hvm hwp hB hz1 hk1 hS => ?_)
        obtain ⟨u117_30, u117_31, u117_32, u117_33⟩ := u
        obtain ⟨hra, hP1, -, hD1⟩ := hB
        have hra := hra.symm
        subst hra
        rw [ht] at hP1
        obtain ⟨hP, hD⟩ := bd_joinL (lr := []) (l1 := [(a25, .inr (12, [.ref u117_30, .int 0, .int tla25, .int u117_33])), (u117_30, .inl (C 1, u117_31, .inl u117_32))]) hP hD [0, 1] [] rfl rfl (by decide) (by decide) hk1 hFc hP1 hD1
        generalize H1 = H at hP hS ⊢
        have hP : va_P D vwCl ([(a25, .inr (12, [.ref u117_30, .int 0, .int tla25, .int u117_33])), (u117_30, .inl (C 1, u117_31, .inl u117_32))] ++ wK C ad d) H := hP
        have hD : va_D A ([(a25, .inr (12, [.ref u117_30, .int 0, .int tla25, .int u117_33])), (u117_30, .inl (C 1, u117_31, .inl u117_32))] ++ wK C ad d) := hD
        refine lv_aload_n hx hb dL_load_120 rfl (lv_at hl 1 rfl) ?_
        refine lv_bipush (v := 11) hx hb dL_load_121 (by decide) ?_
        refine lv_iconst (v := 3) hx hb dL_load_123 (by decide) ?_
        refine lv_iload hx hb dL_load_124 (lv_at hl 5 rfl) ?_
        refine lv_imul hx hb dL_load_126 ?_
        refine lv_iadd hx hb dL_load_127 ?_
        refine lv_iload_n hx hb dL_load_128 rfl (lv_at hl 3 rfl) ?_
        have hPc := hP.sub (ws' := []) [] rfl
        have hDc := hD.sub (ws' := []) [] (by decide) rfl
        have hFc := va_free (wc := []) hD hS hA [] rfl
        obtain ⟨hbk, hwp⟩ := hwp
        refine va_calli (va_runS (As := [.ref q1, .int ((11 : Int32) + ((3 : Int32) * x5)), .int x3]) (rest := [.ref a25]) ⟨hx, hb, hml, hown, hts⟩ (met_L_draw l hst D C q1 ((11 : Int32) + ((3 : Int32) * x5)) x3 sn1 sx1 H.size _ hwp) (va_cwS 3 hts gc_L_40 rfl rfl rfl (by decide +kernel) ⟨Nat.le_of_ble_eq_true rfl, Nat.le_of_ble_eq_true rfl⟩) ⟨fun a U g mk q => by obtain ⟨q0, q1, qP, qK, qD, qT, qS_q0⟩ := q; exact ⟨q0, q1, qP, va_K.moved (u := U) (U := U.calling g mk a) (Vm.Alike.refl U.vm) qK, qD, qT.mv (U := U.calling g mk a) (State.WarmedH.refl U), qS_q0.moved (U := U.calling g mk a) (Vm.Alike.refl U.vm)⟩, fun U hU hW => ⟨rfl, by rw [hU], by rw [hU]; exact hPc, va_K.moved hW.alike hK, hDc.weaken (fun _ _ _ _ => trivial), hT.call hS hFc hU hW, hs_q1.call hS hFc hU hW⟩⟩ rfl rfl hl.1 rfl (lv_room (Nat.le_of_ble_eq_true rfl)) dL_load_129 ⟨hbk.1, hbk.2⟩) hS (fun q _ h => hFc q h) hFc (fun r129 u t H1 locs ht hvm hwp hB hz1 hk1 hS => ?_)
        obtain ⟨hP1, -, hD1⟩ := hB
        rw [ht] at hP1
        obtain ⟨hP, hD⟩ := bd_joinL (lr := [(a25, .inr (12, [.ref u117_30, .int 0, .int tla25, .int u117_33])), (u117_30, .inl (C 1, u117_31, .inl u117_32))]) (l1 := []) hP hD [] [0, 1] rfl rfl (by decide) (by decide) hk1 hFc hP1 hD1
        generalize H1 = H at hP hS ⊢
        have hP : va_P D vwCl ([(a25, .inr (12, [.ref u117_30, .int 0, .int tla25, .int u117_33])), (u117_30, .inl (C 1, u117_31, .inl u117_32))] ++ wK C ad d) H := hP
        have hD : va_D A ([(a25, .inr (12, [.ref u117_30, .int 0, .int tla25, .int u117_33])), (u117_30, .inl (C 1, u117_31, .inl u117_32))] ++ wK C ad d) := hD
        have hPc := hP.sub (ws' := [(a25, .inr (12, [.ref u117_30, .int 0, .int tla25, .int u117_33])), (u117_30, .inl (C 1, u117_31, .inl u117_32))]) [0, 1] rfl
        have hDc := hD.sub (ws' := [(a25, .inr (12, [.ref u117_30, .int 0, .int tla25, .int u117_33])), (u117_30, .inl (C 1, u117_31, .inl u117_32))]) [0, 1] (by decide) rfl
        have hFc := va_free (wc := [(a25, .inr (12, [.ref u117_30, .int 0, .int tla25, .int u117_33])), (u117_30, .inl (C 1, u117_31, .inl u117_32))]) hD hS hA [0, 1] rfl
        obtain ⟨mb132, sb132, hbk, hwp⟩ := hwp
        refine va_callr (va_runV (As := [.int r129]) (rest := []) ⟨hx, hb, hml, hown, hts⟩ (met_J4_append_bf812 l hst D C a25 r129 u117_30 u117_31 u117_32 u117_33 tla25 mb132 sb132 H.size _ hwp) (cwV 1 hts gc_L_51 rfl rfl rfl (by decide +kernel) ⟨Nat.le_of_ble_eq_true rfl, Nat.le_of_ble_eq_true rfl⟩) ⟨fun a U g mk q => by obtain ⟨q0, q1, qP, qK, qD, qT⟩ := q; exact ⟨q0, q1, qP, va_K.moved (u := U) (U := U.calling g mk a) (Vm.Alike.refl U.vm) qK, qD, qT.mv (U := U.calling g mk a) (State.WarmedH.refl U)⟩, va_recv hK hPc (ci := 12) (q0 := 0) rfl rfl, fun U hU hW => ⟨rfl, by rw [hU], by rw [hU]; exact hPc, va_K.moved hW.alike hK, hDc.weaken (fun _ _ _ _ => trivial), hT.call hS hFc hU hW⟩⟩ rfl rfl hl.1 rfl (lv_room (Nat.le_of_ble_eq_true rfl)) dL_load_132 ⟨hbk.1, hbk.2⟩) hS (fun q _ h => hFc q h) hFc (fun u ra t H1 locs ht hvm hwp hB hz1 hk1 hS => ?_)
        obtain ⟨u132_34, u132_35, u132_36, u132_37⟩ := u
        obtain ⟨hra, hP1, -, hD1⟩ := hB
        have hra := hra.symm
        subst hra
        rw [ht] at hP1
        obtain ⟨hP, hD⟩ := bd_joinL (lr := []) (l1 := [(a25, .inr (12, [.ref u132_34, .int 0, .int tla25, .int u132_37])), (u132_34, .inl (C 1, u132_35, .inl u132_36))]) hP hD [0, 1] [] rfl rfl (by decide) (by decide) hk1 hFc hP1 hD1
        generalize H1 = H at hP hS ⊢
        have hP : va_P D vwCl ([(a25, .inr (12, [.ref u132_34, .int 0, .int tla25, .int u132_37])), (u132_34, .inl (C 1, u132_35, .inl u132_36))] ++ wK C ad d) H := hP
        have hD : va_D A ([(a25, .inr (12, [.ref u132_34, .int 0, .int tla25, .int u132_37])), (u132_34, .inl (C 1, u132_35, .inl u132_36))] ++ wK C ad d) := hD
        obtain ⟨sa135, hr_sa135, hs_sa135⟩ := hT.2.2.2.2.2.1 ("ParetoDeskLaw", 65, " joy ", [32, 106, 111, 121, 32]) (by decide)
        refine va_ldcS (own := RL) (tx := " joy ") hx hb hown hr_sa135 dL_load_135 ?_
        have hPc := hP.sub (ws' := [(a25, .inr (12, [.ref u132_34, .int 0, .int tla25, .int u132_37])), (u132_34, .inl (C 1, u132_35, .inl u132_36))]) [0, 1] rfl
        have hDc := hD.sub (ws' := [(a25, .inr (12, [.ref u132_34, .int 0, .int tla25, .int u132_37])), (u132_34, .inl (C 1, u132_35, .inl u132_36))]) [0, 1] (by decide) rfl
        have hFc := va_free (wc := [(a25, .inr (12, [.ref u132_34, .int 0, .int tla25, .int u132_37])), (u132_34, .inl (C 1, u132_35, .inl u132_36))]) hD hS hA [0, 1] rfl
        obtain ⟨mb137, sb137, hbk, hwp⟩ := hwp
        refine va_callr (va_runV (As := [.ref sa135]) (rest := []) ⟨hx, hb, hml, hown, hts⟩ (met_J4_append_15ec4 l hst D C a25 sa135 ([32, 106, 111, 121, 32]) u132_34 u132_35 u132_36 u132_37 tla25 mb137 sb137 H.size _ hwp) (cwV 1 hts gc_L_56 rfl rfl rfl (by decide +kernel) ⟨Nat.le_of_ble_eq_true rfl, Nat.le_of_ble_eq_true rfl⟩) ⟨fun a U g mk q => by obtain ⟨q0, q1, qP, qK, qD, qT, qS_q1⟩ := q; exact ⟨q0, q1, qP, va_K.moved (u := U) (U := U.calling g mk a) (Vm.Alike.refl U.vm) qK, qD, qT.mv (U := U.calling g mk a) (State.WarmedH.refl U), qS_q1.moved (U := U.calling g mk a) (Vm.Alike.refl U.vm)⟩, va_recv hK hPc (ci := 12) (q0 := 0) rfl rfl, fun U hU hW => ⟨rfl, by rw [hU], by rw [hU]; exact hPc, va_K.moved hW.alike hK, hDc.weaken (fun _ _ _ _ => trivial), hT.call hS hFc hU hW, hs_sa135.call hS hFc hU hW⟩⟩ rfl rfl hl.1 rfl (lv_room (Nat.le_of_ble_eq_true rfl)) dL_load_137 ⟨hbk.1, hbk.2⟩) hS (fun q _ h => hFc q h) hFc (fun u ra t H1 locs ht hvm hwp hB hz1 hk1 hS => ?_)
        obtain ⟨u137_38, u137_39, u137_40, u137_41⟩ := u
        obtain ⟨hra, hP1, -, hD1⟩ := hB
        have hra := hra.symm
        subst hra
        rw [ht] at hP1
        obtain ⟨hP, hD⟩ := bd_joinL (lr := []) (l1 := [(a25, .inr (12, [.ref u137_38, .int 0, .int tla25, .int u137_41])), (u137_38, .inl (C 1, u137_39, .inl u137_40))]) hP hD [0, 1] [] rfl rfl (by decide) (by decide) hk1 hFc hP1 hD1
        generalize H1 = H at hP hS ⊢
        have hP : va_P D vwCl ([(a25, .inr (12, [.ref u137_38, .int 0, .int tla25, .int u137_41])), (u137_38, .inl (C 1, u137_39, .inl u137_40))] ++ wK C ad d) H := hP
        have hD : va_D A ([(a25, .inr (12, [.ref u137_38, .int 0, .int tla25, .int u137_41])), (u137_38, .inl (C 1, u137_39, .inl u137_40))] ++ wK C ad d) := hD
        refine lv_aload_n hx hb dL_load_140 rfl (lv_at hl 1 rfl) ?_
        refine lv_bipush (v := 12) hx hb dL_load_141 (by decide) ?_
        refine lv_iconst (v := 3) hx hb dL_load_143 (by decide) ?_
        refine lv_iload hx hb dL_load_144 (lv_at hl 5 rfl) ?_
        refine lv_imul hx hb dL_load_146 ?_
        refine lv_iadd hx hb dL_load_147 ?_
        refine lv_iload_n hx hb dL_load_148 rfl (lv_at hl 3 rfl) ?_
        have hPc := hP.sub (ws' := []) [] rfl
        have hDc := hD.sub (ws' := []) [] (by decide) rfl
        have hFc := va_free (wc := []) hD hS hA [] rfl
        obtain ⟨hbk, hwp⟩ := hwp
        refine va_calli (va_runS (As := [.ref q1, .int ((12 : Int32) + ((3 : Int32) * x5)), .int x3]) (rest := [.ref a25]) ⟨hx, hb, hml, hown, hts⟩ (met_L_draw l hst D C q1 ((12 : Int32) + ((3 : Int32) * x5)) x3 sn1 sx1 H.size _ hwp) (va_cwS 3 hts gc_L_40 rfl rfl rfl (by decide +kernel) ⟨Nat.le_of_ble_eq_true rfl, Nat.le_of_ble_eq_true rfl⟩) ⟨fun a U g mk q => by obtain ⟨q0, q1, qP, qK, qD, qT, qS_q0⟩ := q; exact ⟨q0, q1, qP, va_K.moved (u := U) (U := U.calling g mk a) (Vm.Alike.refl U.vm) qK, qD, qT.mv (U := U.calling g mk a) (State.WarmedH.refl U), qS_q0.moved (U := U.calling g mk a) (Vm.Alike.refl U.vm)⟩, fun U hU hW => ⟨rfl, by rw [hU], by rw [hU]; exact hPc, va_K.moved hW.alike hK, hDc.weaken (fun _ _ _ _ => trivial), hT.call hS hFc hU hW, hs_q1.call hS hFc hU hW⟩⟩ rfl rfl hl.1 rfl (lv_room (Nat.le_of_ble_eq_true rfl)) dL_load_149 ⟨hbk.1, hbk.2⟩) hS (fun q _ h => hFc q h) hFc (fun r149 u t H1 locs ht hvm hwp hB hz1 hk1 hS => ?_)
        obtain ⟨hP1, -, hD1⟩ := hB
        rw [ht] at hP1
        obtain ⟨hP, hD⟩ := bd_joinL (lr := [(a25, .inr (12, [.ref u137_38, .int 0, .int tla25, .int u137_41])), (u137_38, .inl (C 1, u137_39, .inl u137_40))]) (l1 := []) hP hD [] [0, 1] rfl rfl (by decide) (by decide) hk1 hFc hP1 hD1
        generalize H1 = H at hP hS ⊢
        have hP : va_P D vwCl ([(a25, .inr (12, [.ref u137_38, .int 0, .int tla25, .int u137_41])), (u137_38, .inl (C 1, u137_39, .inl u137_40))] ++ wK C ad d) H := hP
        have hD : va_D A ([(a25, .inr (12, [.ref u137_38, .int 0, .int tla25, .int u137_41])), (u137_38, .inl (C 1, u137_39, .inl u137_40))] ++ wK C ad d) := hD
        have hPc := hP.sub (ws' := [(a25, .inr (12, [.ref u137_38, .int 0, .int tla25, .int u137_41])), (u137_38, .inl (C 1, u137_39, .inl u137_40))]) [0, 1] rfl
        have hDc := hD.sub (ws' := [(a25, .inr (12, [.ref u137_38, .int 0, .int tla25, .int u137_41])), (u137_38, .inl (C 1, u137_39, .inl u137_40))]) [0, 1] (by decide) rfl
        have hFc := va_free (wc := [(a25, .inr (12, [.ref u137_38, .int 0, .int tla25, .int u137_41])), (u137_38, .inl (C 1, u137_39, .inl u137_40))]) hD hS hA [0, 1] rfl
        obtain ⟨mb152, sb152, hbk, hwp⟩ := hwp
        refine va_callr (va_runV (As := [.int r149]) (rest := []) ⟨hx, hb, hml, hown, hts⟩ (met_J4_append_bf812 l hst D C a25 r149 u137_38 u137_39 u137_40 u137_41 tla25 mb152 sb152 H.size _ hwp) (cwV 1 hts gc_L_51 rfl rfl rfl (by decide +kernel) ⟨Nat.le_of_ble_eq_true rfl, Nat.le_of_ble_eq_true rfl⟩) ⟨fun a U g mk q => by obtain ⟨q0, q1, qP, qK, qD, qT⟩ := q; exact ⟨q0, q1, qP, va_K.moved (u := U) (U := U.calling g mk a) (Vm.Alike.refl U.vm) qK, qD, qT.mv (U := U.calling g mk a) (State.WarmedH.refl U)⟩, va_recv hK hPc (ci := 12) (q0 := 0) rfl rfl, fun U hU hW => ⟨rfl, by rw [hU], by rw [hU]; exact hPc, va_K.moved hW.alike hK, hDc.weaken (fun _ _ _ _ => trivial), hT.call hS hFc hU hW⟩⟩ rfl rfl hl.1 rfl (lv_room (Nat.le_of_ble_eq_true rfl)) dL_load_152 ⟨hbk.1, hbk.2⟩) hS (fun q _ h => hFc q h) hFc (fun u ra t H1 locs ht hvm hwp hB hz1 hk1 hS => ?_)
        obtain ⟨u152_42, u152_43, u152_44, u152_45⟩ := u
        obtain ⟨hra, hP1, -, hD1⟩ := hB
        have hra := hra.symm
        subst hra
        rw [ht] at hP1
        obtain ⟨hP, hD⟩ := bd_joinL (lr := []) (l1 := [(a25, .inr (12, [.ref u152_42, .int 0, .int tla25, .int u152_45])), (u152_42, .inl (C 1, u152_43, .inl u152_44))]) hP hD [0, 1] [] rfl rfl (by decide) (by decide) hk1 hFc hP1 hD1
        generalize H1 = H at hP hS ⊢
        have hP : va_P D vwCl ([(a25, .inr (12, [.ref u152_42, .int 0, .int tla25, .int u152_45])), (u152_42, .inl (C 1, u152_43, .inl u152_44))] ++ wK C ad d) H := hP
        have hD : va_D A ([(a25, .inr (12, [.ref u152_42, .int 0, .int tla25, .int u152_45])), (u152_42, .inl (C 1, u152_43, .inl u152_44))] ++ wK C ad d) := hD
        obtain ⟨sa155, hr_sa155, hs_sa155⟩ := hT.2.2.2.2.2.1 ("ParetoDeskLaw", 59, ";", [59]) (by decide)
        refine va_ldcS (own := RL) (tx := ";") hx hb hown hr_sa155 dL_load_155 ?_
        have hPc := hP.sub (ws' := [(a25, .inr (12, [.ref u152_42, .int 0, .int tla25, .int u152_45])), (u152_42, .inl (C 1, u152_43, .inl u152_44))]) [0, 1] rfl
        have hDc := hD.sub (ws' := [(a25, .inr (12, [.ref u152_42, .int 0, .int tla25, .int u152_45])), (u152_42, .inl (C 1, u152_43, .inl u152_44))]) [0, 1] (by decide) rfl
        have hFc := va_free (wc := [(a25, .inr (12, [.ref u152_42, .int 0, .int tla25, .int u152_45])), (u152_42, .inl (C 1, u152_43, .inl u152_44))]) hD hS hA [0, 1] rfl
        obtain ⟨mb157, sb157, hbk, hwp⟩ := hwp
        refine va_callr (va_runV (As := [.ref sa155]) (rest := []) ⟨hx, hb, hml, hown, hts⟩ (met_J4_append_15ec4 l hst D C a25 sa155 ([59]) u152_42 u152_43 u152_44 u152_45 tla25 mb157 sb157 H.size _ hwp) (cwV 1 hts gc_L_56 rfl rfl rfl (by decide +kernel) ⟨Nat.le_of_ble_eq_true rfl, Nat.le_of_ble_eq_true rfl⟩) ⟨fun a U g mk q => by obtain ⟨q0, q1, qP, qK, qD, qT, qS_q1⟩ := q; exact ⟨q0, q1, qP, va_K.moved (u := U) (U := U.calling g mk a) (Vm.Alike.refl U.vm) qK, qD, qT.mv (U := U.calling g mk a) (State.WarmedH.refl U), qS_q1.moved (U := U.calling g mk a) (Vm.Alike.refl U.vm)⟩, va_recv hK hPc (ci := 12) (q0 := 0) rfl rfl, fun U hU hW => ⟨rfl, by rw [hU], by rw [hU]; exact hPc, va_K.moved hW.alike hK, hDc.weaken (fun _ _ _ _ => trivial), hT.call hS hFc hU hW, hs_sa155.call hS hFc hU hW⟩⟩ rfl rfl hl.1 rfl (lv_room (Nat.le_of_ble_eq_true rfl)) dL_load_157 ⟨hbk.1, hbk.2⟩) hS (fun q _ h => hFc q h) hFc (fun u ra t H1 locs ht hvm hwp hB hz1 hk1 hS => ?_)
        obtain ⟨u157_46, u157_47, u157_48, u157_49⟩ := u
        obtain ⟨hra, hP1, -, hD1⟩ := hB
        have hra := hra.symm
        subst hra
        rw [ht] at hP1
        obtain ⟨hP, hD⟩ := bd_joinL (lr := []) (l1 := [(a25, .inr (12, [.ref u157_46, .int 0, .int tla25, .int u157_49])), (u157_46, .inl (C 1, u157_47, .inl u157_48))]) hP hD [0, 1] [] rfl rfl (by decide) (by decide) hk1 hFc hP1 hD1
        generalize H1 = H at hP hS ⊢
        have hP : va_P D vwCl ([(a25, .inr (12, [.ref u157_46, .int 0, .int tla25, .int u157_49])), (u157_46, .inl (C 1, u157_47, .inl u157_48))] ++ wK C ad d) H := hP
        have hD : va_D A ([(a25, .inr (12, [.ref u157_46, .int 0, .int tla25, .int u157_49])), (u157_46, .inl (C 1, u157_47, .inl u157_48))] ++ wK C ad d) := hD
        refine lv_pop hx hb dL_load_160 rfl ?_
        refine lv_iinc (v := x5 + 1) (lv' := [(5, .int (x5 + 1)), (0, .ref (ad 0)), (1, .ref q1), (2, .int x2), (3, .int x3), (4, .ref a25)]) hx hb dL_load_161 hl (k := 5) rfl rfl (by decide) rfl (fun ls hl => ?_)
        refine lv_goto (tgt := 87) hx hb dL_load_164 (by decide) ?_
        obtain ⟨hbk, hwp⟩ := hwp
        refine W.widen (k := (8 + u157_47)) (n := (100 + 2 * u157_47)) hbk.1 hbk.2 ?_
        have hl9 := lv_sub (l' := [(0, .ref (ad 0)), (1, .ref q1), (2, .int x2), (3, .int x3), (4, .ref a25), (5, .int (x5 + 1))]) hl [1, 2, 3, 4, 5, 0] rfl
        have hP9 : va_P D vwCl ([(a25, .inr (12, [.ref u157_46, .int 0, .int tla25, .int u157_49])), (u157_46, .inl (C 1, u157_47, .inl u157_48))] ++ wK C ad d) H := bd_P (lc := [(a25, .inr (12, [.ref u157_46, .int 0, .int tla25, .int u157_49])), (u157_46, .inl (C 1, u157_47, .inl u157_48))]) hP [0, 1] rfl
        have hD9 : va_D A ([(a25, .inr (12, [.ref u157_46, .int 0, .int tla25, .int u157_49])), (u157_46, .inl (C 1, u157_47, .inl u157_48))] ++ wK C ad d) := bd_D (lc := [(a25, .inr (12, [.ref u157_46, .int 0, .int tla25, .int u157_49])), (u157_46, .inl (C 1, u157_47, .inl u157_48))]) hD [0, 1] rfl (by decide)
        exact ih (x5 + 1) u157_46 u157_47 u157_48 u157_49 H locs ls hl9 hP9 hD9 hS hwp
  have HB316 : ∀ (a25 : Nat) (a169 : Nat) (a175 : Nat) (x2 : Int32) (x3 : Int32) (d : DT) (tla25 : Int32) (k188 : Int32 → Int32 → Int32 → Nat → Nat → (Nat → Int32) → Int32 → (Nat → Int32) → (Nat → Int32) → Prop) (hk188 : ∀ (x7 : Int32) (x8 : Int32) (x9 : Int32) (tpa25 : Nat) (tna25 : Nat) (tfa25 : Nat → Int32) (tca25 : Int32) (ta169 : Nat → Int32) (ta175 : Nat → Int32) (H : Heap) (locs : List Loc) (ls : Array Slot), lv_has ls 13 [(0, .ref (ad 0)), (1, .ref q1), (2, .int x2), (3, .int x3), (4, .ref a25), (5, .ref a169), (6, .ref a175), (7, .int x7), (8, .int x8), (9, .int x9)] → va_P D vwCl ([(a25, .inr (12, [.ref tpa25, .int 0, .int tla25, .int tca25])), (tpa25, .inl (C 1, tna25, .inl tfa25)), (a169, .inl (C 0, 8, .inl ta169)), (a175, .inl (C 0, 8, .inl ta175))] ++ wK C ad d) H → va_D A ([(a25, .inr (12, [.ref tpa25, .int 0, .int tla25, .int tca25])), (tpa25, .inl (C 1, tna25, .inl tfa25)), (a169, .inl (C 0, 8, .inl ta169)), (a175, .inl (C 0, 8, .inl ta175))] ++ wK C ad d) → va_S A s.heap H locs → k188 x7 x8 x9 tpa25 tna25 tfa25 tca25 ta169 ta175 → W p l e (headSpec ws_L_load rm_L_load).room s m ([.ref (ad 0), .ref q1] : List Value).toArray below meth c H locs (12 + tna25) (140 + 2 * tna25) (MQ below (q_L_load D C ad q1 sn1 sx1 Q A) ([.ref (ad 0), .ref q1] : List Value).toArray s 3000 6000 A) (F0 m 188 ls [])) (k386 : Int32 → Int32 → Nat → Nat → (Nat → Int32) → Int32 → (Nat → Int32) → (Nat → Int32) → Prop) (hk386 : ∀ (x7 : Int32) (x8 : Int32) (tpa25 : Nat) (tna25 : Nat) (tfa25 : Nat → Int32) (tca25 : Int32) (ta169 : Nat → Int32) (ta175 : Nat → Int32) (H : Heap) (locs : List Loc) (ls : Array Slot), lv_has ls 13 [(0, .ref (ad 0)), (1, .ref q1), (2, .int x2), (3, .int x3), (4, .ref a25), (5, .ref a169), (6, .ref a175), (7, .int x7), (8, .int x8)] → va_P D vwCl ([(a25, .inr (12, [.ref tpa25, .int 0, .int tla25, .int tca25])), (tpa25, .inl (C 1, tna25, .inl tfa25)), (a169, .inl (C 0, 8, .inl ta169)), (a175, .inl (C 0, 8, .inl ta175))] ++ wK C ad d) H → va_D A ([(a25, .inr (12, [.ref tpa25, .int 0, .int tla25, .int tca25])), (tpa25, .inl (C 1, tna25, .inl tfa25)), (a169, .inl (C 0, 8, .inl ta169)), (a175, .inl (C 0, 8, .inl ta175))] ++ wK C ad d) → va_S A s.heap H locs → k386 x7 x8 tpa25 tna25 tfa25 tca25 ta169 ta175 → W p l e (headSpec ws_L_load rm_L_load).room s m ([.ref (ad 0), .ref q1] : List Value).toArray below meth c H locs (12 + tna25) (140 + 2 * tna25) (MQ below (q_L_load D C ad q1 sn1 sx1 Q A) ([.ref (ad 0), .ref q1] : List Value).toArray s 3000 6000 A) (F0 m 386 ls [])) (x7 : Int32) (x8 : Int32) (x9 : Int32) (x10 : Int32) (x11 : Int32) (tpa25 : Nat) (tna25 : Nat) (tfa25 : Nat → Int32) (tca25 : Int32) (ta169 : Nat → Int32) (ta175 : Nat → Int32) (H : Heap) (locs : List Loc) (ls : Array Slot), lv_has ls 13 [(0, .ref (ad 0)), (1, .ref q1), (2, .int x2), (3, .int x3), (4, .ref a25), (5, .ref a169), (6, .ref a175), (7, .int x7), (8, .int x8), (9, .int x9), (10, .int x10), (11, .int x11)] → va_P D vwCl ([(a25, .inr (12, [.ref tpa25, .int 0, .int tla25, .int tca25])), (tpa25, .inl (C 1, tna25, .inl tfa25)), (a169, .inl (C 0, 8, .inl ta169)), (a175, .inl (C 0, 8, .inl ta175))] ++ wK C ad d) H → va_D A ([(a25, .inr (12, [.ref tpa25, .int 0, .int tla25, .int tca25])), (tpa25, .inl (C 1, tna25, .inl tfa25)), (a169, .inl (C 0, 8, .inl ta169)), (a175, .inl (C 0, 8, .inl ta175))] ++ wK C ad d) → va_S A s.heap H locs → wp_L_load_b316 sn1 sx1 x2 x3 d tla25 k188 k386 Q x7 x8 x9 x10 x11 tpa25 tna25 tfa25 tca25 ta169 ta175 → W p l e (headSpec ws_L_load rm_L_load).room s m ([.ref (ad 0), .ref q1] : List Value).toArray below meth c H locs (12 + tna25) (140 + 2 * tna25) (MQ below (q_L_load D C ad q1 sn1 sx1 Q A) ([.ref (ad 0), .ref q1] : List Value).toArray s 3000 6000 A) (F0 m 316 ls []) := by
    intro a25 a169 a175 x2 x3 d tla25 k188 hk188 k386 hk386 x7 x8 x9 x10 x11 tpa25 tna25 tfa25 tca25 ta169 ta175 H locs ls hl hP hD hS hwp
    unfold wp_L_load_b316 at hwp
    refine lv_iload hx hb dL_load_316 (lv_at hl 9 rfl) ?_
    refine lv_iconst (v := 2) hx hb dL_load_318 (by decide) ?_
    refine lv_irem hx hb dL_load_319 (by decide) ?_
    refine lv_iconst (v := 1) hx hb dL_load_320 (by decide) ?_
    refine lv_icmp_ne (tgt := 380) hx hb dL_load_321 (by decide) (fun c321 => ?_) (fun c321 => ?_)
    · have hwp := hwp.1 c321
      refine lv_iinc (v := x9 + 1) (lv' := [(9, .int (x9 + 1)), (0, .ref (ad 0)), (1, .ref q1), (2, .int x2), (3, .int x3), (4, .ref a25), (5, .ref a169), (6, .ref a175), (7, .int x7), (8, .int x8), (10, .int x10), (11, .int x11)]) hx hb dL_load_380 hl (k := 9) rfl rfl (by decide) rfl (fun ls hl => ?_)
      refine lv_goto (tgt := 188) hx hb dL_load_383 (by decide) ?_
      obtain ⟨hbk, hwp⟩ := hwp
      refine W.widen (k := (12 + tna25)) (n := (140 + 2 * tna25)) hbk.1 hbk.2 ?_
      have hl9 := lv_sub (l' := [(0, .ref (ad 0)), (1, .ref q1), (2, .int x2), (3, .int x3), (4, .ref a25), (5, .ref a169), (6, .ref a175), (7, .int x7), (8, .int x8), (9, .int (x9 + 1))]) hl [1, 2, 3, 4, 5, 6, 7, 8, 9, 0] rfl
      have hP9 : va_P D vwCl ([(a25, .inr (12, [.ref tpa25, .int 0, .int tla25, .int tca25])), (tpa25, .inl (C 1, tna25, .inl tfa25)), (a169, .inl (C 0, 8, .inl ta169)), (a175, .inl (C 0, 8, .inl ta175))] ++ wK C ad d) H := bd_P (lc := [(a25, .inr (12, [.ref tpa25, .int 0, .int tla25, .int tca25])), (tpa25, .inl (C 1, tna25, .inl tfa25)), (a169, .inl (C 0, 8, .inl ta169)), (a175, .inl (C 0, 8, .inl ta175))]) hP [0, 1, 2, 3] rfl
      have hD9 : va_D A ([(a25, .inr (12, [.ref tpa25, .int 0, .int tla25, .int tca25])), (tpa25, .inl (C 1, tna25, .inl tfa25)), (a169, .inl (C 0, 8, .inl ta169)), (a175, .inl (C 0, 8, .inl ta175))] ++ wK C ad d) := bd_D (lc := [(a25, .inr (12, [.ref tpa25, .int 0, .int tla25, .int tca25])), (tpa25, .inl (C 1, tna25, .inl tfa25)), (a169, .inl (C 0, 8, .inl ta169)), (a175, .inl (C 0, 8, .inl ta175))]) hD [0, 1, 2, 3] rfl (by decide)
      exact hk188 x7 x8 (x9 + 1) tpa25 tna25 tfa25 tca25 ta169 ta175 H locs ls hl9 hP9 hD9 hS hwp
    · have hwp := hwp.2 c321
      refine lv_aload hx hb dL_load_324 (lv_at hl 6 rfl) ?_
      refine lv_iload hx hb dL_load_326 (lv_at hl 10 rfl) ?_
      obtain ⟨hi328, hwp⟩ := hwp
      refine va_iald (D := D) hx hb hK hP 3 0 rfl rfl hi328 dL_load_328 ?_
      refine lv_iload hx hb dL_load_329 (lv_at hl 11 rfl) ?_
      refine lv_ishr hx hb dL_load_331 ?_
      refine lv_iconst (v := 1) hx hb dL_load_332 (by decide) ?_
      refine lv_iand hx hb dL_load_333 ?_
      refine lv_if_ne (tgt := 380) hx hb dL_load_334 (by decide) (fun c334 => ?_) (fun c334 => ?_)
      · have hwp := hwp.1 c334
        refine lv_iinc (v := x9 + 1) (lv' := [(9, .int (x9 + 1)), (0, .ref (ad 0)), (1, .ref q1), (2, .int x2), (3, .int x3), (4, .ref a25), (5, .ref a169), (6, .ref a175), (7, .int x7), (8, .int x8), (10, .int x10), (11, .int x11)]) hx hb dL_load_380 hl (k := 9) rfl rfl (by decide) rfl (fun ls hl => ?_)
        refine lv_goto (tgt := 188) hx hb dL_load_383 (by decide) ?_
        obtain ⟨hbk, hwp⟩ := hwp
        refine W.widen (k := (12 + tna25)) (n := (140 + 2 * tna25)) hbk.1 hbk.2 ?_
        have hl9 := lv_sub (l' := [(0, .ref (ad 0)), (1, .ref q1), (2, .int x2), (3, .int x3), (4, .ref a25), (5, .ref a169), (6, .ref a175), (7, .int x7), (8, .int x8), (9, .int (x9 + 1))]) hl [1, 2, 3, 4, 5, 6, 7, 8, 9, 0] rfl
        have hP9 : va_P D vwCl ([(a25, .inr (12, [.ref tpa25, .int 0, .int tla25, .int tca25])), (tpa25, .inl (C 1, tna25, .inl tfa25)), (a169, .inl (C 0, 8, .inl ta169)), (a175, .inl (C 0, 8, .inl ta175))] ++ wK C ad d) H := bd_P (lc := [(a25, .inr (12, [.ref tpa25, .int 0, .int tla25, .int tca25])), (tpa25, .inl (C 1, tna25, .inl tfa25)), (a169, .inl (C 0, 8, .inl ta169)), (a175, .inl (C 0, 8, .inl ta175))]) hP [0, 1, 2, 3] rfl
        have hD9 : va_D A ([(a25, .inr (12, [.ref tpa25, .int 0, .int tla25, .int tca25])), (tpa25, .inl (C 1, tna25, .inl tfa25)), (a169, .inl (C 0, 8, .inl ta169)), (a175, .inl (C 0, 8, .inl ta175))] ++ wK C ad d) := bd_D (lc := [(a25, .inr (12, [.ref tpa25, .int 0, .int tla25, .int tca25])), (tpa25, .inl (C 1, tna25, .inl tfa25)), (a169, .inl (C 0, 8, .inl ta169)), (a175, .inl (C 0, 8, .inl ta175))]) hD [0, 1, 2, 3] rfl (by decide)
        exact hk188 x7 x8 (x9 + 1) tpa25 tna25 tfa25 tca25 ta169 ta175 H locs ls hl9 hP9 hD9 hS hwp
      · have hwp := hwp.2 c334
        refine lv_aload hx hb dL_load_337 (lv_at hl 4 rfl) ?_
        obtain ⟨sa339, hr_sa339, hs_sa339⟩ := hT.2.2.2.2.2.1 ("ParetoDeskLaw", 71, "need ", [110, 101, 101, 100, 32]) (by decide)
        refine va_ldcS (own := RL) (tx := "need ") hx hb hown hr_sa339 dL_load_339 ?_
        have hPc := hP.sub (ws' := [(a25, .inr (12, [.ref tpa25, .int 0, .int tla25, .int tca25])), (tpa25, .inl (C 1, tna25, .inl tfa25))]) [0, 1] rfl
        have hDc := hD.sub (ws' := [(a25, .inr (12, [.ref tpa25, .int 0, .int tla25, .int tca25])), (tpa25, .inl (C 1, tna25, .inl tfa25))]) [0, 1] (by decide) rfl
        have hFc := va_free (wc := [(a25, .inr (12, [.ref tpa25, .int 0, .int tla25, .int tca25])), (tpa25, .inl (C 1, tna25, .inl tfa25))]) hD hS hA [0, 1] rfl
        obtain ⟨mb341, sb341, hbk, hwp⟩ := hwp
        refine va_callr (va_runV (As := [.ref sa339]) (rest := []) ⟨hx, hb, hml, hown, hts⟩ (met_J4_append_15ec4 l hst D C a25 sa339 ([110, 101, 101, 100, 32]) tpa25 tna25 tfa25 tca25 tla25 mb341 sb341 H.size _ hwp) (cwV 1 hts gc_L_56 rfl rfl rfl (by decide +kernel) ⟨Nat.le_of_ble_eq_true rfl, Nat.le_of_ble_eq_true rfl⟩) ⟨fun a U g mk q => by obtain ⟨q0, q1, qP, qK, qD, qT, qS_q1⟩ := q; exact ⟨q0, q1, qP, va_K.moved (u := U) (U := U.calling g mk a) (Vm.Alike.refl U.vm) qK, qD, qT.mv (U := U.calling g mk a) (State.WarmedH.refl U), qS_q1.moved (U := U.calling g mk a) (Vm.Alike.refl U.vm)⟩, va_recv hK hPc (ci := 12) (q0 := 0) rfl rfl, fun U hU hW => ⟨rfl, by rw [hU], by rw [hU]; exact hPc, va_K.moved hW.alike hK, hDc.weaken (fun _ _ _ _ => trivial), hT.call hS hFc hU hW, hs_sa339.call hS hFc hU hW⟩⟩ rfl rfl hl.1 rfl (lv_room (Nat.le_of_ble_eq_true rfl)) dL_load_341 ⟨hbk.1, hbk.2⟩) hS (fun q _ h => hFc q h) hFc (fun u ra t H1 locs ht hvm hwp hB hz1 hk1 hS => ?_)
        obtain ⟨u341_50, u341_51, u341_52, u341_53⟩ := u
        obtain ⟨hra, hP1, -, hD1⟩ := hB
        have hra := hra.symm
        subst hra
        rw [ht] at hP1
        obtain ⟨hP, hD⟩ := bd_joinL (lr := [(a169, .inl (C 0, 8, .inl ta169)), (a175, .inl (C 0, 8, .inl ta175))]) (l1 := [(a25, .inr (12, [.ref u341_50, .int 0, .int tla25, .int u341_53])), (u341_50, .inl (C 1, u341_51, .inl u341_52))]) hP hD [0, 1] [2, 3] rfl rfl (by decide) (by decide) hk1 hFc hP1 hD1
        generalize H1 = H at hP hS ⊢
        have hP : va_P D vwCl ([(a169, .inl (C 0, 8, .inl ta169)), (a175, .inl (C 0, 8, .inl ta175)), (a25, .inr (12, [.ref u341_50, .int 0, .int tla25, .int u341_53])), (u341_50, .inl (C 1, u341_51, .inl u341_52))] ++ wK C ad d) H := hP
        have hD : va_D A ([(a169, .inl (C 0, 8, .inl ta169)), (a175, .inl (C 0, 8, .inl ta175)), (a25, .inr (12, [.ref u341_50, .int 0, .int tla25, .int u341_53])), (u341_50, .inl (C 1, u341_51, .inl u341_52))] ++ wK C ad d) := hD
        refine lv_iload hx hb dL_load_344 (lv_at hl 10 rfl) ?_
        have hPc := hP.sub (ws' := [(a25, .inr (12, [.ref u341_50, .int 0, .int tla25, .int u341_53])), (u341_50, .inl (C 1, u341_51, .inl u341_52))]) [2, 3] rfl
        have hDc := hD.sub (ws' := [(a25, .inr (12, [.ref u341_50, .int 0, .int tla25, .int u341_53])), (u341_50, .inl (C 1, u341_51, .inl u341_52))]) [2, 3] (by decide) rfl
        have hFc := va_free (wc := [(a25, .inr (12, [.ref u341_50, .int 0, .int tla25, .int u341_53])), (u341_50, .inl (C 1, u341_51, .inl u341_52))]) hD hS hA [2, 3] rfl
        obtain ⟨mb346, sb346, hbk, hwp⟩ := hwp
        refine va_callr (va_runV (As := [.int x10]) (rest := []) ⟨hx, hb, hml, hown, hts⟩ (met_J4_append_bf812 l hst D C a25 x10 u341_50 u341_51 u341_52 u341_53 tla25 mb346 sb346 H.size _ hwp) (cwV 1 hts gc_L_51 rfl rfl rfl (by decide +kernel) ⟨Nat.le_of_ble_eq_true rfl, Nat.le_of_ble_eq_true rfl⟩) ⟨fun a U g mk q => by obtain ⟨q0, q1, qP, qK, qD, qT⟩ := q; exact ⟨q0, q1, qP, va_K.moved (u := U) (U := U.calling g mk a) (Vm.Alike.refl U.vm) qK, qD, qT.mv (U := U.calling g mk a) (State.WarmedH.refl U)⟩, va_recv hK hPc (ci := 12) (q0 := 0) rfl rfl, fun U hU hW => ⟨rfl, by rw [hU], by rw [hU]; exact hPc, va_K.moved hW.alike hK, hDc.weaken (fun _ _ _ _ => trivial), hT.call hS hFc hU hW⟩⟩ rfl rfl hl.1 rfl (lv_room (Nat.le_of_ble_eq_true rfl)) dL_load_346 ⟨hbk.1, hbk.2⟩) hS (fun q _ h => hFc q h) hFc (fun u ra t H1 locs ht hvm hwp hB hz1 hk1 hS => ?_)
        obtain ⟨u346_54, u346_55, u346_56, u346_57⟩ := u
        obtain ⟨hra, hP1, -, hD1⟩ := hB
        have hra := hra.symm
        subst hra
        rw [ht] at hP1
        obtain ⟨hP, hD⟩ := bd_joinL (lr := [(a169, .inl (C 0, 8, .inl ta169)), (a175, .inl (C 0, 8, .inl ta175))]) (l1 := [(a25, .inr (12, [.ref u346_54, .int 0, .int tla25, .int u346_57])), (u346_54, .inl (C 1, u346_55, .inl u346_56))]) hP hD [2, 3] [0, 1] rfl rfl (by decide) (by decide) hk1 hFc hP1 hD1
        generalize H1 = H at hP hS ⊢
        have hP : va_P D vwCl ([(a169, .inl (C 0, 8, .inl ta169)), (a175, .inl (C 0, 8, .inl ta175)), (a25, .inr (12, [.ref u346_54, .int 0, .int tla25, .int u346_57])), (u346_54, .inl (C 1, u346_55, .inl u346_56))] ++ wK C ad d) H := hP
        have hD : va_D A ([(a169, .inl (C 0, 8, .inl ta169)), (a175, .inl (C 0, 8, .inl ta175)), (a25, .inr (12, [.ref u346_54, .int 0, .int tla25, .int u346_57])), (u346_54, .inl (C 1, u346_55, .inl u346_56))] ++ wK C ad d) := hD
        obtain ⟨sa349, hr_sa349, hs_sa349⟩ := hT.2.2.2.2.2.1 ("ParetoDeskLaw", 69, " ", [32]) (by decide)
        refine va_ldcS (own := RL) (tx := " ") hx hb hown hr_sa349 dL_load_349 ?_
        have hPc := hP.sub (ws' := [(a25, .inr (12, [.ref u346_54, .int 0, .int tla25, .int u346_57])), (u346_54, .inl (C 1, u346_55, .inl u346_56))]) [2, 3] rfl
        have hDc := hD.sub (ws' := [(a25, .inr (12, [.ref u346_54, .int 0, .int tla25, .int u346_57])), (u346_54, .inl (C 1, u346_55, .inl u346_56))]) [2, 3] (by decide) rfl
        have hFc := va_free (wc := [(a25, .inr (12, [.ref u346_54, .int 0, .int tla25, .int u346_57])), (u346_54, .inl (C 1, u346_55, .inl u346_56))]) hD hS hA [2, 3] rfl
        obtain ⟨mb351, sb351, hbk, hwp⟩ := hwp
        refine va_callr (va_runV (As := [.ref sa349]) (rest := []) ⟨hx, hb, hml, hown, hts⟩ (met_J4_append_15ec4 l hst D C a25 sa349 ([32]) u346_54 u346_55 u346_56 u346_57 tla25 mb351 sb351 H.size _ hwp) (cwV 1 hts gc_L_56 rfl rfl rfl (by decide +kernel) ⟨Nat.le_of_ble_eq_true rfl, Nat.le_of_ble_eq_true rfl⟩) ⟨fun a U g mk q => by obtain ⟨q0, q1, qP, qK, qD, qT, qS_q1⟩ := q; exact ⟨q0, q1, qP, va_K.moved (u := U) (U := U.calling g mk a) (Vm.Alike.refl U.vm) qK, qD, qT.mv (U := U.calling g mk a) (State.WarmedH.refl U), qS_q1.moved (U := U.calling g mk a) (Vm.Alike.refl U.vm)⟩, va_recv hK hPc (ci := 12) (q0 := 0) rfl rfl, fun U hU hW => ⟨rfl, by rw [hU], by rw [hU]; exact hPc, va_K.moved hW.alike hK, hDc.weaken (fun _ _ _ _ => trivial), hT.call hS hFc hU hW, hs_sa349.call hS hFc hU hW⟩⟩ rfl rfl hl.1 rfl (lv_room (Nat.le_of_ble_eq_true rfl)) dL_load_351 ⟨hbk.1, hbk.2⟩) hS (fun q _ h => hFc q h) hFc (fun u ra t H1 locs ht hvm hwp hB hz1 hk1 hS => ?_)
        obtain ⟨u351_58, u351_59, u351_60, u351_61⟩ := u
        obtain ⟨hra, hP1, -, hD1⟩ := hB
        have hra := hra.symm
        subst hra
        rw [ht] at hP1
        obtain ⟨hP, hD⟩ := bd_joinL (lr := [(a169, .inl (C 0, 8, .inl ta169)), (a175, .inl (C 0, 8, .inl ta175))]) (l1 := [(a25, .inr (12, [.ref u351_58, .int 0, .int tla25, .int u351_61])), (u351_58, .inl (C 1, u351_59, .inl u351_60))]) hP hD [2, 3] [0, 1] rfl rfl (by decide) (by decide) hk1 hFc hP1 hD1
        generalize H1 = H at hP hS ⊢
        have hP : va_P D vwCl ([(a169, .inl (C 0, 8, .inl ta169)), (a175, .inl (C 0, 8, .inl ta175)), (a25, .inr (12, [.ref u351_58, .int 0, .int tla25, .int u351_61])), (u351_58, .inl (C 1, u351_59, .inl u351_60))] ++ wK C ad d) H := hP
        have hD : va_D A ([(a169, .inl (C 0, 8, .inl ta169)), (a175, .inl (C 0, 8, .inl ta175)), (a25, .inr (12, [.ref u351_58, .int 0, .int tla25, .int u351_61])), (u351_58, .inl (C 1, u351_59, .inl u351_60))] ++ wK C ad d) := hD
        refine lv_iload hx hb dL_load_354 (lv_at hl 11 rfl) ?_
        have hPc := hP.sub (ws' := [(a25, .inr (12, [.ref u351_58, .int 0, .int tla25, .int u351_61])), (u351_58, .inl (C 1, u351_59, .inl u351_60))]) [2, 3] rfl
        have hDc := hD.sub (ws' := [(a25, .inr (12, [.ref u351_58, .int 0, .int tla25, .int u351_61])), (u351_58, .inl (C 1, u351_59, .inl u351_60))]) [2, 3] (by decide) rfl
        have hFc := va_free (wc := [(a25, .inr (12, [.ref u351_58, .int 0, .int tla25, .int u351_61])), (u351_58, .inl (C 1, u351_59, .inl u351_60))]) hD hS hA [2, 3] rfl
        obtain ⟨mb356, sb356, hbk, hwp⟩ := hwp
        refine va_callr (va_runV (As := [.int x11]) (rest := []) ⟨hx, hb, hml, hown, hts⟩ (met_J4_append_bf812 l hst D C a25 x11 u351_58 u351_59 u351_60 u351_61 tla25 mb356 sb356 H.size _ hwp) (cwV 1 hts gc_L_51 rfl rfl rfl (by decide +kernel) ⟨Nat.le_of_ble_eq_true rfl, Nat.le_of_ble_eq_true rfl⟩) ⟨fun a U g mk q => by obtain ⟨q0, q1, qP, qK, qD, qT⟩ := q; exact ⟨q0, q1, qP, va_K.moved (u := U) (U := U.calling g mk a) (Vm.Alike.refl U.vm) qK, qD, qT.mv (U := U.calling g mk a) (State.WarmedH.refl U)⟩, va_recv hK hPc (ci := 12) (q0 := 0) rfl rfl, fun U hU hW => ⟨rfl, by rw [hU], by rw [hU]; exact hPc, va_K.moved hW.alike hK, hDc.weaken (fun _ _ _ _ => trivial), hT.call hS hFc hU hW⟩⟩ rfl rfl hl.1 rfl (lv_room (Nat.le_of_ble_eq_true rfl)) dL_load_356 ⟨hbk.1, hbk.2⟩) hS (fun q _ h => hFc q h) hFc (fun u ra t H1 locs ht hvm hwp hB hz1 hk1 hS => ?_)
        obtain ⟨u356_62, u356_63, u356_64, u356_65⟩ := u
        obtain ⟨hra, hP1, -, hD1⟩ := hB
        have hra := hra.symm
        subst hra
        rw [ht] at hP1
        obtain ⟨hP, hD⟩ := bd_joinL (lr := [(a169, .inl (C 0, 8, .inl ta169)), (a175, .inl (C 0, 8, .inl ta175))]) (l1 := [(a25, .inr (12, [.ref u356_62, .int 0, .int tla25, .int u356_65])), (u356_62, .inl (C 1, u356_63, .inl u356_64))]) hP hD [2, 3] [0, 1] rfl rfl (by decide) (by decide) hk1 hFc hP1 hD1
        generalize H1 = H at hP hS ⊢
        have hP : va_P D vwCl ([(a169, .inl (C 0, 8, .inl ta169)), (a175, .inl (C 0, 8, .inl ta175)), (a25, .inr (12, [.ref u356_62, .int 0, .int tla25, .int u356_65])), (u356_62, .inl (C 1, u356_63, .inl u356_64))] ++ wK C ad d) H := hP
        have hD : va_D A ([(a169, .inl (C 0, 8, .inl ta169)), (a175, .inl (C 0, 8, .inl ta175)), (a25, .inr (12, [.ref u356_62, .int 0, .int tla25, .int u356_65])), (u356_62, .inl (C 1, u356_63, .inl u356_64))] ++ wK C ad d) := hD
        obtain ⟨sa359, hr_sa359, hs_sa359⟩ := hT.2.2.2.2.2.1 ("ParetoDeskLaw", 59, ";", [59]) (by decide)
        refine va_ldcS (own := RL) (tx := ";") hx hb hown hr_sa359 dL_load_359 ?_
        have hPc := hP.sub (ws' := [(a25, .inr (12, [.ref u356_62, .int 0, .int tla25, .int u356_65])), (u356_62, .inl (C 1, u356_63, .inl u356_64))]) [2, 3] rfl
        have hDc := hD.sub (ws' := [(a25, .inr (12, [.ref u356_62, .int 0, .int tla25, .int u356_65])), (u356_62, .inl (C 1, u356_63, .inl u356_64))]) [2, 3] (by decide) rfl
        have hFc := va_free (wc := [(a25, .inr (12, [.ref u356_62, .int 0, .int tla25, .int u356_65])), (u356_62, .inl (C 1, u356_63, .inl u356_64))]) hD hS hA [2, 3] rfl
        obtain ⟨mb361, sb361, hbk, hwp⟩ := hwp
        refine va_callr (va_runV (As := [.ref sa359]) (rest := []) ⟨hx, hb, hml, hown, hts⟩ (met_J4_append_15ec4 l hst D C a25 sa359 ([59]) u356_62 u356_63 u356_64 u356_65 tla25 mb361 sb361 H.size _ hwp) (cwV 1 hts gc_L_56 rfl rfl rfl (by decide +kernel) ⟨Nat.le_of_ble_eq_true rfl, Nat.le_of_ble_eq_true rfl⟩) ⟨fun a U g mk q => by obtain ⟨q0, q1, qP, qK, qD, qT, qS_q1⟩ := q; exact ⟨q0, q1, qP, va_K.moved (u := U) (U := U.calling g mk a) (Vm.Alike.refl U.vm) qK, qD, qT.mv (U := U.calling g mk a) (State.WarmedH.refl U), qS_q1.moved (U := U.calling g mk a) (Vm.Alike.refl U.vm)⟩, va_recv hK hPc (ci := 12) (q0 := 0) rfl rfl, fun U hU hW => ⟨rfl, by rw [hU], by rw [hU]; exact hPc, va_K.moved hW.alike hK, hDc.weaken (fun _ _ _ _ => trivial), hT.call hS hFc hU hW, hs_sa359.call hS hFc hU hW⟩⟩ rfl rfl hl.1 rfl (lv_room (Nat.le_of_ble_eq_true rfl)) dL_load_361 ⟨hbk.1, hbk.2⟩) hS (fun q _ h => hFc q h) hFc (fun u ra t H1 locs ht hvm hwp hB hz1 hk1 hS => ?_)
        obtain ⟨u361_66, u361_67, u361_68, u361_69⟩ := u
        obtain ⟨hra, hP1, -, hD1⟩ := hB
        have hra := hra.symm
        subst hra
        rw [ht] at hP1
        obtain ⟨hP, hD⟩ := bd_joinL (lr := [(a169, .inl (C 0, 8, .inl ta169)), (a175, .inl (C 0, 8, .inl ta175))]) (l1 := [(a25, .inr (12, [.ref u361_66, .int 0, .int tla25, .int u361_69])), (u361_66, .inl (C 1, u361_67, .inl u361_68))]) hP hD [2, 3] [0, 1] rfl rfl (by decide) (by decide) hk1 hFc hP1 hD1
        generalize H1 = H at hP hS ⊢
        have hP : va_P D vwCl ([(a169, .inl (C 0, 8, .inl ta169)), (a175, .inl (C 0, 8, .inl ta175)), (a25, .inr (12, [.ref u361_66, .int 0, .int tla25, .int u361_69])), (u361_66, .inl (C 1, u361_67, .inl u361_68))] ++ wK C ad d) H := hP
        have hD : va_D A ([(a169, .inl (C 0, 8, .inl ta169)), (a175, .inl (C 0, 8, .inl ta175)), (a25, .inr (12, [.ref u361_66, .int 0, .int tla25, .int u361_69])), (u361_66, .inl (C 1, u361_67, .inl u361_68))] ++ wK C ad d) := hD
        refine lv_pop hx hb dL_load_364 rfl ?_
        refine lv_aload hx hb dL_load_365 (lv_at hl 6 rfl) ?_
        refine lv_iload hx hb dL_load_367 (lv_at hl 10 rfl) ?_
        refine lv_dup2_11 hx hb dL_load_369 rfl rfl ?_
        obtain ⟨hi370, hwp⟩ := hwp
        refine va_iald (D := D) hx hb hK hP 1 0 rfl rfl hi370 dL_load_370 ?_
        refine lv_iconst (v := 1) hx hb dL_load_371 (by decide) ?_
        refine lv_iload hx hb dL_load_372 (lv_at hl 11 rfl) ?_
        refine lv_ishl hx hb dL_load_374 ?_
        refine lv_ior hx hb dL_load_375 ?_
        obtain ⟨hi376, hwp⟩ := hwp
        refine va_iast (D := D) hx hb hK hP hD hS 1 0 rfl rfl hi376 dL_load_376 (fun H locs hP hD hS => ?_)
        have hP : va_P D vwCl ([(a169, .inl (C 0, 8, .inl ta169)), (a175, .inl (C 0, 8, .inl (upd ta175 x10.toNatClampNeg ((ta175 x10.toNatClampNeg) ||| ((1 : Int32) <<< (x11 &&& 31)))))), (a25, .inr (12, [.ref u361_66, .int 0, .int tla25, .int u361_69])), (u361_66, .inl (C 1, u361_67, .inl u361_68))] ++ wK C ad d) H := hP
        have hD : va_D A ([(a169, .inl (C 0, 8, .inl ta169)), (a175, .inl (C 0, 8, .inl (upd ta175 x10.toNatClampNeg ((ta175 x10.toNatClampNeg) ||| ((1 : Int32) <<< (x11 &&& 31)))))), (a25, .inr (12, [.ref u361_66, .int 0, .int tla25, .int u361_69])), (u361_66, .inl (C 1, u361_67, .inl u361_68))] ++ wK C ad d) := hD
        refine lv_iinc (v := x8 + 1) (lv' := [(8, .int (x8 + 1)), (0, .ref (ad 0)), (1, .ref q1), (2, .int x2), (3, .int x3), (4, .ref a25), (5, .ref a169), (6, .ref a175), (7, .int x7), (9, .int x9), (10, .int x10), (11, .int x11)]) hx hb dL_load_377 hl (k := 8) rfl rfl (by decide) rfl (fun ls hl => ?_)
        refine lv_iinc (v := x9 + 1) (lv' := [(9, .int (x9 + 1)), (8, .int (x8 + 1)), (0, .ref (ad 0)), (1, .ref q1), (2, .int x2), (3, .int x3), (4, .ref a25), (5, .ref a169), (6, .ref a175), (7, .int x7), (10, .int x10), (11, .int x11)]) hx hb dL_load_380 hl (k := 9) rfl rfl (by decide) rfl (fun ls hl => ?_)
        refine lv_goto (tgt := 188) hx hb dL_load_383 (by decide) ?_
        obtain ⟨hbk, hwp⟩ := hwp
        refine W.widen (k := (12 + u361_67)) (n := (140 + 2 * u361_67)) hbk.1 hbk.2 ?_
        have hl9 := lv_sub (l' := [(0, .ref (ad 0)), (1, .ref q1), (2, .int x2), (3, .int x3), (4, .ref a25), (5, .ref a169), (6, .ref a175), (7, .int x7), (8, .int (x8 + 1)), (9, .int (x9 + 1))]) hl [2, 3, 4, 5, 6, 7, 8, 9, 1, 0] rfl
        have hP9 : va_P D vwCl ([(a25, .inr (12, [.ref u361_66, .int 0, .int tla25, .int u361_69])), (u361_66, .inl (C 1, u361_67, .inl u361_68)), (a169, .inl (C 0, 8, .inl ta169)), (a175, .inl (C 0, 8, .inl (upd ta175 x10.toNatClampNeg ((ta175 x10.toNatClampNeg) ||| ((1 : Int32) <<< (x11 &&& 31))))))] ++ wK C ad d) H := bd_P (lc := [(a25, .inr (12, [.ref u361_66, .int 0, .int tla25, .int u361_69])), (u361_66, .inl (C 1, u361_67, .inl u361_68)), (a169, .inl (C 0, 8, .inl ta169)), (a175, .inl (C 0, 8, .inl (upd ta175 x10.toNatClampNeg ((ta175 x10.toNatClampNeg) ||| ((1 : Int32) <<< (x11 &&& 31))))))]) hP [2, 3, 0, 1] rfl
        have hD9 : va_D A ([(a25, .inr (12, [.ref u361_66, .int 0, .int tla25, .int u361_69])), (u361_66, .inl (C 1, u361_67, .inl u361_68)), (a169, .inl (C 0, 8, .inl ta169)), (a175, .inl (C 0, 8, .inl (upd ta175 x10.toNatClampNeg ((ta175 x10.toNatClampNeg) ||| ((1 : Int32) <<< (x11 &&& 31))))))] ++ wK C ad d) := bd_D (lc := [(a25, .inr (12, [.ref u361_66, .int 0, .int tla25, .int u361_69])), (u361_66, .inl (C 1, u361_67, .inl u361_68)), (a169, .inl (C 0, 8, .inl ta169)), (a175, .inl (C 0, 8, .inl (upd ta175 x10.toNatClampNeg ((ta175 x10.toNatClampNeg) ||| ((1 : Int32) <<< (x11 &&& 31))))))]) hD [2, 3, 0, 1] rfl (by decide)
        exact hk188 x7 (x8 + 1) (x9 + 1) u361_66 u361_67 u361_68 u361_69 ta169 (upd ta175 x10.toNatClampNeg ((ta175 x10.toNatClampNeg) ||| ((1 : Int32) <<< (x11 &&& 31)))) H locs ls hl9 hP9 hD9 hS hwp
  have HL188 : ∀ (a25 : Nat) (a169 : Nat) (a175 : Nat) (x2 : Int32) (x3 : Int32) (d : DT) (tla25 : Int32) (k386 : Int32 → Int32 → Nat → Nat → (Nat → Int32) → Int32 → (Nat → Int32) → (Nat → Int32) → Prop) (hk386 : ∀ (x7 : Int32) (x8 : Int32) (tpa25 : Nat) (tna25 : Nat) (tfa25 : Nat → Int32) (tca25 : Int32) (ta169 : Nat → Int32) (ta175 : Nat → Int32) (H : Heap) (locs : List Loc) (ls : Array Slot), lv_has ls 13 [(0, .ref (ad 0)), (1, .ref q1), (2, .int x2), (3, .int x3), (4, .ref a25), (5, .ref a169), (6, .ref a175), (7, .int x7), (8, .int x8)] → va_P D vwCl ([(a25, .inr (12, [.ref tpa25, .int 0, .int tla25, .int tca25])), (tpa25, .inl (C 1, tna25, .inl tfa25)), (a169, .inl (C 0, 8, .inl ta169)), (a175, .inl (C 0, 8, .inl ta175))] ++ wK C ad d) H → va_D A ([(a25, .inr (12, [.ref tpa25, .int 0, .int tla25, .int tca25])), (tpa25, .inl (C 1, tna25, .inl tfa25)), (a169, .inl (C 0, 8, .inl ta169)), (a175, .inl (C 0, 8, .inl ta175))] ++ wK C ad d) → va_S A s.heap H locs → k386 x7 x8 tpa25 tna25 tfa25 tca25 ta169 ta175 → W p l e (headSpec ws_L_load rm_L_load).room s m ([.ref (ad 0), .ref q1] : List Value).toArray below meth c H locs (12 + tna25) (140 + 2 * tna25) (MQ below (q_L_load D C ad q1 sn1 sx1 Q A) ([.ref (ad 0), .ref q1] : List Value).toArray s 3000 6000 A) (F0 m 386 ls [])) (n188 : Nat) (x7 : Int32) (x8 : Int32) (x9 : Int32) (tpa25 : Nat) (tna25 : Nat) (tfa25 : Nat → Int32) (tca25 : Int32) (ta169 : Nat → Int32) (ta175 : Nat → Int32) (H : Heap) (locs : List Loc) (ls : Array Slot), lv_has ls 13 [(0, .ref (ad 0)), (1, .ref q1), (2, .int x2), (3, .int x3), (4, .ref a25), (5, .ref a169), (6, .ref a175), (7, .int x7), (8, .int x8), (9, .int x9)] → va_P D vwCl ([(a25, .inr (12, [.ref tpa25, .int 0, .int tla25, .int tca25])), (tpa25, .inl (C 1, tna25, .inl tfa25)), (a169, .inl (C 0, 8, .inl ta169)), (a175, .inl (C 0, 8, .inl ta175))] ++ wK C ad d) H → va_D A ([(a25, .inr (12, [.ref tpa25, .int 0, .int tla25, .int tca25])), (tpa25, .inl (C 1, tna25, .inl tfa25)), (a169, .inl (C 0, 8, .inl ta169)), (a175, .inl (C 0, 8, .inl ta175))] ++ wK C ad d) → va_S A s.heap H locs → wp_L_load_L188 sn1 sx1 x2 x3 d tla25 k386 Q n188 x7 x8 x9 tpa25 tna25 tfa25 tca25 ta169 ta175 → W p l e (headSpec ws_L_load rm_L_load).room s m ([.ref (ad 0), .ref q1] : List Value).toArray below meth c H locs (12 + tna25) (140 + 2 * tna25) (MQ below (q_L_load D C ad q1 sn1 sx1 Q A) ([.ref (ad 0), .ref q1] : List Value).toArray s 3000 6000 A) (F0 m 188 ls []) := by
    intro a25 a169 a175 x2 x3 d tla25 k386 hk386 n188
    induction n188 with
    | zero =>
      intro x7 x8 x9 tpa25 tna25 tfa25 tca25 ta169 ta175 H locs ls hl hP hD hS hwp
      exact False.elim hwp
    | succ n188 ih =>
      intro x7 x8 x9 tpa25 tna25 tfa25 tca25 ta169 ta175 H locs ls hl hP hD hS hwp
      unfold wp_L_load_L188 at hwp
      refine lv_iload_n hx hb dL_load_188 rfl (lv_at hl 2 rfl) ?_
      refine lv_iconst (v := 1) hx hb dL_load_189 (by decide) ?_
      refine lv_icmp_le (tgt := 386) hx hb dL_load_190 (by decide) (fun c190 => ?_) (fun c190 => ?_)
      · have hwp := hwp.1 c190
        obtain ⟨hbk, hwp⟩ := hwp
        refine W.widen (k := (12 + tna25)) (n := (140 + 2 * tna25)) hbk.1 hbk.2 ?_
        have hl9 := lv_sub (l' := [(0, .ref (ad 0)), (1, .ref q1), (2, .int x2), (3, .int x3), (4, .ref a25), (5, .ref a169), (6, .ref a175), (7, .int x7), (8, .int x8)]) hl [0, 1, 2, 3, 4, 5, 6, 7, 8] rfl
        have hP9 : va_P D vwCl ([(a25, .inr (12, [.ref tpa25, .int 0, .int tla25, .int tca25])), (tpa25, .inl (C 1, tna25, .inl tfa25)), (a169, .inl (C 0, 8, .inl ta169)), (a175, .inl (C 0, 8, .inl ta175))] ++ wK C ad d) H := bd_P (lc := [(a25, .inr (12, [.ref tpa25, .int 0, .int tla25, .int tca25])), (tpa25, .inl (C 1, tna25, .inl tfa25)), (a169, .inl (C 0, 8, .inl ta169)), (a175, .inl (C 0, 8, .inl ta175))]) hP [0, 1, 2, 3] rfl
        have hD9 : va_D A ([(a25, .inr (12, [.ref tpa25, .int 0, .int tla25, .int tca25])), (tpa25, .inl (C 1, tna25, .inl tfa25)), (a169, .inl (C 0, 8, .inl ta169)), (a175, .inl (C 0, 8, .inl ta175))] ++ wK C ad d) := bd_D (lc := [(a25, .inr (12, [.ref tpa25, .int 0, .int tla25, .int tca25])), (tpa25, .inl (C 1, tna25, .inl tfa25)), (a169, .inl (C 0, 8, .inl ta169)), (a175, .inl (C 0, 8, .inl ta175))]) hD [0, 1, 2, 3] rfl (by decide)
        exact hk386 x7 x8 tpa25 tna25 tfa25 tca25 ta169 ta175 H locs ls hl9 hP9 hD9 hS hwp
      · have hwp := hwp.2 c190
        refine lv_iload hx hb dL_load_193 (lv_at hl 9 rfl) ?_
        refine lv_aload_n hx hb dL_load_195 rfl (lv_at hl 1 rfl) ?_
        refine lv_iconst (v := 5) hx hb dL_load_196 (by decide) ?_
        refine lv_iconst (v := 5) hx hb dL_load_197 (by decide) ?_
        have hPc := hP.sub (ws' := []) [] rfl
        have hDc := hD.sub (ws' := []) [] (by decide) rfl
        have hFc := va_free (wc := []) hD hS hA [] rfl
        obtain ⟨hbk, hwp⟩ := hwp
        refine va_calli (va_runS (As := [.ref q1, .int (5 : Int32), .int (5 : Int32)]) (rest := [.int x9]) ⟨hx, hb, hml, hown, hts⟩ (met_L_draw l hst D C q1 (5 : Int32) (5 : Int32) sn1 sx1 H.size _ hwp) (va_cwS 3 hts gc_L_40 rfl rfl rfl (by decide +kernel) ⟨Nat.le_of_ble_eq_true rfl, Nat.le_of_ble_eq_true rfl⟩) ⟨fun a U g mk q => by obtain ⟨q0, q1, qP, qK, qD, qT, qS_q0⟩ := q; exact ⟨q0, q1, qP, va_K.moved (u := U) (U := U.calling g mk a) (Vm.Alike.refl U.vm) qK, qD, qT.mv (U := U.calling g mk a) (State.WarmedH.refl U), qS_q0.moved (U := U.calling g mk a) (Vm.Alike.refl U.vm)⟩, fun U hU hW => ⟨rfl, by rw [hU], by rw [hU]; exact hPc, va_K.moved hW.alike hK, hDc.weaken (fun _ _ _ _ => trivial), hT.call hS hFc hU hW, hs_q1.call hS hFc hU hW⟩⟩ rfl rfl hl.1 rfl (lv_room (Nat.le_of_ble_eq_true rfl)) dL_load_198 ⟨hbk.1, hbk.2⟩) hS (fun q _ h => hFc q h) hFc (fun r198 u t H1 locs ht hvm hwp hB hz1 hk1 hS => ?_)
        obtain ⟨hP1, -, hD1⟩ := hB
        rw [ht] at hP1
        obtain ⟨hP, hD⟩ := bd_joinL (lr := [(a25, .inr (12, [.ref tpa25, .int 0, .int tla25, .int tca25])), (tpa25, .inl (C 1, tna25, .inl tfa25)), (a169, .inl (C 0, 8, .inl ta169)), (a175, .inl (C 0, 8, .inl ta175))]) (l1 := []) hP hD [] [0, 1, 2, 3] rfl rfl (by decide) (by decide) hk1 hFc hP1 hD1
        generalize H1 = H at hP hS ⊢
        have hP : va_P D vwCl ([(a25, .inr (12, [.ref tpa25, .int 0, .int tla25, .int tca25])), (tpa25, .inl (C 1, tna25, .inl tfa25)), (a169, .inl (C 0, 8, .inl ta169)), (a175, .inl (C 0, 8, .inl ta175))] ++ wK C ad d) H := hP
        have hD : va_D A ([(a25, .inr (12, [.ref tpa25, .int 0, .int tla25, .int tca25])), (tpa25, .inl (C 1, tna25, .inl tfa25)), (a169, .inl (C 0, 8, .inl ta169)), (a175, .inl (C 0, 8, .inl ta175))] ++ wK C ad d) := hD
        refine lv_icmp_ge (tgt := 386) hx hb dL_load_201 (by decide) (fun c201 => ?_) (fun c201 => ?_)
        · have hwp := hwp.1 c201
          obtain ⟨hbk, hwp⟩ := hwp
          refine W.widen (k := (12 + tna25)) (n := (140 + 2 * tna25)) hbk.1 hbk.2 ?_
          have hl9 := lv_sub (l' := [(0, .ref (ad 0)), (1, .ref q1), (2, .int x2), (3, .int x3), (4, .ref a25), (5, .ref a169), (6, .ref a175), (7, .int x7), (8, .int x8)]) hl [0, 1, 2, 3, 4, 5, 6, 7, 8] rfl
          have hP9 : va_P D vwCl ([(a25, .inr (12, [.ref tpa25, .int 0, .int tla25, .int tca25])), (tpa25, .inl (C 1, tna25, .inl tfa25)), (a169, .inl (C 0, 8, .inl ta169)), (a175, .inl (C 0, 8, .inl ta175))] ++ wK C ad d) H := bd_P (lc := [(a25, .inr (12, [.ref tpa25, .int 0, .int tla25, .int tca25])), (tpa25, .inl (C 1, tna25, .inl tfa25)), (a169, .inl (C 0, 8, .inl ta169)), (a175, .inl (C 0, 8, .inl ta175))]) hP [0, 1, 2, 3] rfl
          have hD9 : va_D A ([(a25, .inr (12, [.ref tpa25, .int 0, .int tla25, .int tca25])), (tpa25, .inl (C 1, tna25, .inl tfa25)), (a169, .inl (C 0, 8, .inl ta169)), (a175, .inl (C 0, 8, .inl ta175))] ++ wK C ad d) := bd_D (lc := [(a25, .inr (12, [.ref tpa25, .int 0, .int tla25, .int tca25])), (tpa25, .inl (C 1, tna25, .inl tfa25)), (a169, .inl (C 0, 8, .inl ta169)), (a175, .inl (C 0, 8, .inl ta175))]) hD [0, 1, 2, 3] rfl (by decide)
          exact hk386 x7 x8 tpa25 tna25 tfa25 tca25 ta169 ta175 H locs ls hl9 hP9 hD9 hS hwp
        · have hwp := hwp.2 c201
          refine lv_aload_n hx hb dL_load_204 rfl (lv_at hl 1 rfl) ?_
          refine lv_bipush (v := 40) hx hb dL_load_205 (by decide) ?_
          refine lv_iconst (v := 2) hx hb dL_load_207 (by decide) ?_
          refine lv_iload hx hb dL_load_208 (lv_at hl 9 rfl) ?_
          refine lv_imul hx hb dL_load_210 ?_
          refine lv_iadd hx hb dL_load_211 ?_
          refine lv_iload_n hx hb dL_load_212 rfl (lv_at hl 2 rfl) ?_
          have hPc := hP.sub (ws' := []) [] rfl
          have hDc := hD.sub (ws' := []) [] (by decide) rfl
          have hFc := va_free (wc := []) hD hS hA [] rfl
          obtain ⟨hbk, hwp⟩ := hwp
          refine va_calli (va_runS (As := [.ref q1, .int ((40 : Int32) + ((2 : Int32) * x9)), .int x2]) (rest := []) ⟨hx, hb, hml, hown, hts⟩ (met_L_draw l hst D C q1 ((40 : Int32) + ((2 : Int32) * x9)) x2 sn1 sx1 H.size _ hwp) (va_cwS 3 hts gc_L_40 rfl rfl rfl (by decide +kernel) ⟨Nat.le_of_ble_eq_true rfl, Nat.le_of_ble_eq_true rfl⟩) ⟨fun a U g mk q => by obtain ⟨q0, q1, qP, qK, qD, qT, qS_q0⟩ := q; exact ⟨q0, q1, qP, va_K.moved (u := U) (U := U.calling g mk a) (Vm.Alike.refl U.vm) qK, qD, qT.mv (U := U.calling g mk a) (State.WarmedH.refl U), qS_q0.moved (U := U.calling g mk a) (Vm.Alike.refl U.vm)⟩, fun U hU hW => ⟨rfl, by rw [hU], by rw [hU]; exact hPc, va_K.moved hW.alike hK, hDc.weaken (fun _ _ _ _ => trivial), hT.call hS hFc hU hW, hs_q1.call hS hFc hU hW⟩⟩ rfl rfl hl.1 rfl (lv_room (Nat.le_of_ble_eq_true rfl)) dL_load_213 ⟨hbk.1, hbk.2⟩) hS (fun q _ h => hFc q h) hFc (fun r213 u t H1 locs ht hvm hwp hB hz1 hk1 hS => ?_)
          obtain ⟨hP1, -, hD1⟩ := hB
          rw [ht] at hP1
          obtain ⟨hP, hD⟩ := bd_joinL (lr := [(a25, .inr (12, [.ref tpa25, .int 0, .int tla25, .int tca25])), (tpa25, .inl (C 1, tna25, .inl tfa25)), (a169, .inl (C 0, 8, .inl ta169)), (a175, .inl (C 0, 8, .inl ta175))]) (l1 := []) hP hD [] [0, 1, 2, 3] rfl rfl (by decide) (by decide) hk1 hFc hP1 hD1
          generalize H1 = H at hP hS ⊢
          have hP : va_P D vwCl ([(a25, .inr (12, [.ref tpa25, .int 0, .int tla25, .int tca25])), (tpa25, .inl (C 1, tna25, .inl tfa25)), (a169, .inl (C 0, 8, .inl ta169)), (a175, .inl (C 0, 8, .inl ta175))] ++ wK C ad d) H := hP
          have hD : va_D A ([(a25, .inr (12, [.ref tpa25, .int 0, .int tla25, .int tca25])), (tpa25, .inl (C 1, tna25, .inl tfa25)), (a169, .inl (C 0, 8, .inl ta169)), (a175, .inl (C 0, 8, .inl ta175))] ++ wK C ad d) := hD
          refine lv_istore (lv' := [(10, .int r213), (0, .ref (ad 0)), (1, .ref q1), (2, .int x2), (3, .int x3), (4, .ref a25), (5, .ref a169), (6, .ref a175), (7, .int x7), (8, .int x8), (9, .int x9)]) hx hb dL_load_216 hl (by decide) rfl (fun ls hl => ?_)
          refine lv_iload hx hb dL_load_218 (lv_at hl 0 rfl) ?_
          refine lv_iconst (v := 1) hx hb dL_load_220 (by decide) ?_
          refine lv_iadd hx hb dL_load_221 ?_
          refine lv_aload_n hx hb dL_load_222 rfl (lv_at hl 2 rfl) ?_
          refine lv_bipush (v := 41) hx hb dL_load_223 (by decide) ?_
          refine lv_iconst (v := 2) hx hb dL_load_225 (by decide) ?_
          refine lv_iload hx hb dL_load_226 (lv_at hl 10 rfl) ?_
          refine lv_imul hx hb dL_load_228 ?_
          refine lv_iadd hx hb dL_load_229 ?_
          refine lv_iload_n hx hb dL_load_230 rfl (lv_at hl 3 rfl) ?_
          refine lv_iconst (v := 1) hx hb dL_load_231 (by decide) ?_
          refine lv_isub hx hb dL_load_232 ?_
          have hPc := hP.sub (ws' := []) [] rfl
          have hDc := hD.sub (ws' := []) [] (by decide) rfl
          have hFc := va_free (wc := []) hD hS hA [] rfl
          obtain ⟨hbk, hwp⟩ := hwp
          refine va_calli (va_runS (As := [.ref q1, .int ((41 : Int32) + ((2 : Int32) * x9)), .int (x2 - (1 : Int32))]) (rest := [.int (r213 + (1 : Int32))]) ⟨hx, hb, hml, hown, hts⟩ (met_L_draw l hst D C q1 ((41 : Int32) + ((2 : Int32) * x9)) (x2 - (1 : Int32)) sn1 sx1 H.size _ hwp) (va_cwS 3 hts gc_L_40 rfl rfl rfl (by decide +kernel) ⟨Nat.le_of_ble_eq_true rfl, Nat.le_of_ble_eq_true rfl⟩) ⟨fun a U g mk q => by obtain ⟨q0, q1, qP, qK, qD, qT, qS_q0⟩ := q; exact ⟨q0, q1, qP, va_K.moved (u := U) (U := U.calling g mk a) (Vm.Alike.refl U.vm) qK, qD, qT.mv (U := U.calling g mk a) (State.WarmedH.refl U), qS_q0.moved (U := U.calling g mk a) (Vm.Alike.refl U.vm)⟩, fun U hU hW => ⟨rfl, by rw [hU], by rw [hU]; exact hPc, va_K.moved hW.alike hK, hDc.weaken (fun _ _ _ _ => trivial), hT.call hS hFc hU hW, hs_q1.call hS hFc hU hW⟩⟩ rfl rfl hl.1 rfl (lv_room (Nat.le_of_ble_eq_true rfl)) dL_load_233 ⟨hbk.1, hbk.2⟩) hS (fun q _ h => hFc q h) hFc (fun r233 u t H1 locs ht hvm hwp hB hz1 hk1 hS => ?_)
          obtain ⟨hP1, -, hD1⟩ := hB
          rw [ht] at hP1
          obtain ⟨hP, hD⟩ := bd_joinL (lr := [(a25, .inr (12, [.ref tpa25, .int 0, .int tla25, .int tca25])), (tpa25, .inl (C 1, tna25, .inl tfa25)), (a169, .inl (C 0, 8, .inl ta169)), (a175, .inl (C 0, 8, .inl ta175))]) (l1 := []) hP hD [] [0, 1, 2, 3] rfl rfl (by decide) (by decide) hk1 hFc hP1 hD1
          generalize H1 = H at hP hS ⊢
          have hP : va_P D vwCl ([(a25, .inr (12, [.ref tpa25, .int 0, .int tla25, .int tca25])), (tpa25, .inl (C 1, tna25, .inl tfa25)), (a169, .inl (C 0, 8, .inl ta169)), (a175, .inl (C 0, 8, .inl ta175))] ++ wK C ad d) H := hP
          have hD : va_D A ([(a25, .inr (12, [.ref tpa25, .int 0, .int tla25, .int tca25])), (tpa25, .inl (C 1, tna25, .inl tfa25)), (a169, .inl (C 0, 8, .inl ta169)), (a175, .inl (C 0, 8, .inl ta175))] ++ wK C ad d) := hD
          refine lv_iadd hx hb dL_load_236 ?_
          refine lv_iload_n hx hb dL_load_237 rfl (lv_at hl 3 rfl) ?_
          obtain ⟨hz238, hwp⟩ := hwp
          refine lv_irem hx hb dL_load_238 hz238 ?_
          refine lv_topi (fun v239 ev239 => ?_)
          have hwp := hwp v239 ev239
          refine lv_istore (lv' := [(11, .int v239), (10, .int r213), (0, .ref (ad 0)), (1, .ref q1), (2, .int x2), (3, .int x3), (4, .ref a25), (5, .ref a169), (6, .ref a175), (7, .int x7), (8, .int x8), (9, .int x9)]) hx hb dL_load_239 hl (by decide) rfl (fun ls hl => ?_)
          refine lv_iload hx hb dL_load_241 (lv_at hl 11 rfl) ?_
          refine lv_iconst (v := 2) hx hb dL_load_243 (by decide) ?_
          refine lv_irem hx hb dL_load_244 (by decide) ?_
          refine lv_if_ne (tgt := 316) hx hb dL_load_245 (by decide) (fun c245 => ?_) (fun c245 => ?_)
          · have hwp := hwp.1 c245
            obtain ⟨hbk, hwp⟩ := hwp
            refine W.widen (k := (12 + tna25)) (n := (140 + 2 * tna25)) hbk.1 hbk.2 ?_
            have hl9 := lv_sub (l' := [(0, .ref (ad 0)), (1, .ref q1), (2, .int x2), (3, .int x3), (4, .ref a25), (5, .ref a169), (6, .ref a175), (7, .int x7), (8, .int x8), (9, .int x9), (10, .int r213), (11, .int v239)]) hl [2, 3, 4, 5, 6, 7, 8, 9, 10, 11, 1, 0] rfl
            have hP9 : va_P D vwCl ([(a25, .inr (12, [.ref tpa25, .int 0, .int tla25, .int tca25])), (tpa25, .inl (C 1, tna25, .inl tfa25)), (a169, .inl (C 0, 8, .inl ta169)), (a175, .inl (C 0, 8, .inl ta175))] ++ wK C ad d) H := bd_P (lc := [(a25, .inr (12, [.ref tpa25, .int 0, .int tla25, .int tca25])), (tpa25, .inl (C 1, tna25, .inl tfa25)), (a169, .inl (C 0, 8, .inl ta169)), (a175, .inl (C 0, 8, .inl ta175))]) hP [0, 1, 2, 3] rfl
            have hD9 : va_D A ([(a25, .inr (12, [.ref tpa25, .int 0, .int tla25, .int tca25])), (tpa25, .inl (C 1, tna25, .inl tfa25)), (a169, .inl (C 0, 8, .inl ta169)), (a175, .inl (C 0, 8, .inl ta175))] ++ wK C ad d) := bd_D (lc := [(a25, .inr (12, [.ref tpa25, .int 0, .int tla25, .int tca25])), (tpa25, .inl (C 1, tna25, .inl tfa25)), (a169, .inl (C 0, 8, .inl ta169)), (a175, .inl (C 0, 8, .inl ta175))]) hD [0, 1, 2, 3] rfl (by decide)
            exact HB316 a25 a169 a175 x2 x3 d tla25 _ (fun z0 z1 z2 z3 z4 z5 z6 z7 z8 H locs ls hl hP hD hS hwp => ih z0 z1 z2 z3 z4 z5 z6 z7 z8 H locs ls hl hP hD hS hwp) _ hk386 x7 x8 x9 r213 v239 tpa25 tna25 tfa25 tca25 ta169 ta175 H locs ls hl9 hP9 hD9 hS hwp
          · have hwp := hwp.2 c245
            refine lv_aload hx hb dL_load_248 (lv_at hl 7 rfl) ?_
            refine lv_iload hx hb dL_load_250 (lv_at hl 1 rfl) ?_
            obtain ⟨hi252, hwp⟩ := hwp
            refine va_iald (D := D) hx hb hK hP 2 0 rfl rfl hi252 dL_load_252 ?_
            refine lv_iload hx hb dL_load_253 (lv_at hl 0 rfl) ?_
            refine lv_ishr hx hb dL_load_255 ?_
            refine lv_iconst (v := 1) hx hb dL_load_256 (by decide) ?_
            refine lv_iand hx hb dL_load_257 ?_
            refine lv_if_ne (tgt := 316) hx hb dL_load_258 (by decide) (fun c258 => ?_) (fun c258 => ?_)
            · have hwp := hwp.1 c258
              obtain ⟨hbk, hwp⟩ := hwp
              refine W.widen (k := (12 + tna25)) (n := (140 + 2 * tna25)) hbk.1 hbk.2 ?_
              have hl9 := lv_sub (l' := [(0, .ref (ad 0)), (1, .ref q1), (2, .int x2), (3, .int x3), (4, .ref a25), (5, .ref a169), (6, .ref a175), (7, .int x7), (8, .int x8), (9, .int x9), (10, .int r213), (11, .int v239)]) hl [2, 3, 4, 5, 6, 7, 8, 9, 10, 11, 1, 0] rfl
              have hP9 : va_P D vwCl ([(a25, .inr (12, [.ref tpa25, .int 0, .int tla25, .int tca25])), (tpa25, .inl (C 1, tna25, .inl tfa25)), (a169, .inl (C 0, 8, .inl ta169)), (a175, .inl (C 0, 8, .inl ta175))] ++ wK C ad d) H := bd_P (lc := [(a25, .inr (12, [.ref tpa25, .int 0, .int tla25, .int tca25])), (tpa25, .inl (C 1, tna25, .inl tfa25)), (a169, .inl (C 0, 8, .inl ta169)), (a175, .inl (C 0, 8, .inl ta175))]) hP [0, 1, 2, 3] rfl
              have hD9 : va_D A ([(a25, .inr (12, [.ref tpa25, .int 0, .int tla25, .int tca25])), (tpa25, .inl (C 1, tna25, .inl tfa25)), (a169, .inl (C 0, 8, .inl ta169)), (a175, .inl (C 0, 8, .inl ta175))] ++ wK C ad d) := bd_D (lc := [(a25, .inr (12, [.ref tpa25, .int 0, .int tla25, .int tca25])), (tpa25, .inl (C 1, tna25, .inl tfa25)), (a169, .inl (C 0, 8, .inl ta169)), (a175, .inl (C 0, 8, .inl ta175))]) hD [0, 1, 2, 3] rfl (by decide)
              exact HB316 a25 a169 a175 x2 x3 d tla25 _ (fun z0 z1 z2 z3 z4 z5 z6 z7 z8 H locs ls hl hP hD hS hwp => ih z0 z1 z2 z3 z4 z5 z6 z7 z8 H locs ls hl hP hD hS hwp) _ hk386 x7 x8 x9 r213 v239 tpa25 tna25 tfa25 tca25 ta169 ta175 H locs ls hl9 hP9 hD9 hS hwp
            · have hwp := hwp.2 c258
              refine lv_aload hx hb dL_load_261 (lv_at hl 6 rfl) ?_
              obtain ⟨sa263, hr_sa263, hs_sa263⟩ := hT.2.2.2.2.2.1 ("ParetoDeskLaw", 67, "bar ", [98, 97, 114, 32]) (by decide)
              refine va_ldcS (own := RL) (tx := "bar ") hx hb hown hr_sa263 dL_load_263 ?_
              have hPc := hP.sub (ws' := [(a25, .inr (12, [.ref tpa25, .int 0, .int tla25, .int tca25])), (tpa25, .inl (C 1, tna25, .inl tfa25))]) [0, 1] rfl
              have hDc := hD.sub (ws' := [(a25, .inr (12, [.ref tpa25, .int 0, .int tla25, .int tca25])), (tpa25, .inl (C 1, tna25, .inl tfa25))]) [0, 1] (by decide) rfl
              have hFc := va_free (wc := [(a25, .inr (12, [.ref tpa25, .int 0, .int tla25, .int tca25])), (tpa25, .inl (C 1, tna25, .inl tfa25))]) hD hS hA [0, 1] rfl
              obtain ⟨mb265, sb265, hbk, hwp⟩ := hwp
              refine va_callr (va_runV (As := [.ref sa263]) (rest := []) ⟨hx, hb, hml, hown, hts⟩ (met_J4_append_15ec4 l hst D C a25 sa263 ([98, 97, 114, 32]) tpa25 tna25 tfa25 tca25 tla25 mb265 sb265 H.size _ hwp) (cwV 1 hts gc_L_56 rfl rfl rfl (by decide +kernel) ⟨Nat.le_of_ble_eq_true rfl, Nat.le_of_ble_eq_true rfl⟩) ⟨fun a U g mk q => by obtain ⟨q0, q1, qP, qK, qD, qT, qS_q1⟩ := q; exact ⟨q0, q1, qP, va_K.moved (u := U) (U := U.calling g mk a) (Vm.Alike.refl U.vm) qK, qD, qT.mv (U := U.calling g mk a) (State.WarmedH.refl U), qS_q1.moved (U := U.calling g mk a) (Vm.Alike.refl U.vm)⟩, va_recv hK hPc (ci := 12) (q0 := 0) rfl rfl, fun U hU hW => ⟨rfl, by rw [hU], by rw [hU]; exact hPc, va_K.moved hW.alike hK, hDc.weaken (fun _ _ _ _ => trivial), hT.call hS hFc hU hW, hs_sa263.call hS hFc hU hW⟩⟩ rfl rfl hl.1 rfl (lv_room (Nat.le_of_ble_eq_true rfl)) dL_load_265 ⟨hbk.1, hbk.2⟩) hS (fun q _ h => hFc q h) hFc (fun u ra t H1 locs ht hvm hwp hB hz1 hk1 hS => ?_)
              obtain ⟨u265_70, u265_71, u265_72, u265_73⟩ := u
              obtain ⟨hra, hP1, -, hD1⟩ := hB
              have hra := hra.symm
              subst hra
              rw [ht] at hP1
              obtain ⟨hP, hD⟩ := bd_joinL (lr := [(a169, .inl (C 0, 8, .inl ta169)), (a175, .inl (C 0, 8, .inl ta175))]) (l1 := [(a25, .inr (12, [.ref u265_70, .int 0, .int tla25, .int u265_73])), (u265_70, .inl (C 1, u265_71, .inl u265_72))]) hP hD [0, 1] [2, 3] rfl rfl (by decide) (by decide) hk1 hFc hP1 hD1
              generalize H1 = H at hP hS ⊢
              have hP : va_P D vwCl ([(a169, .inl (C 0, 8, .inl ta169)), (a175, .inl (C 0, 8, .inl ta175)), (a25, .inr (12, [.ref u265_70, .int 0, .int tla25, .int u265_73])), (u265_70, .inl (C 1, u265_71, .inl u265_72))] ++ wK C ad d) H := hP
              have hD : va_D A ([(a169, .inl (C 0, 8, .inl ta169)), (a175, .inl (C 0, 8, .inl ta175)), (a25, .inr (12, [.ref u265_70, .int 0, .int tla25, .int u265_73])), (u265_70, .inl (C 1, u265_71, .inl u265_72))] ++ wK C ad d) := hD
              refine lv_iload hx hb dL_load_268 (lv_at hl 1 rfl) ?_
              have hPc := hP.sub (ws' := [(a25, .inr (12, [.ref u265_70, .int 0, .int tla25, .int u265_73])), (u265_70, .inl (C 1, u265_71, .inl u265_72))]) [2, 3] rfl
              have hDc := hD.sub (ws' := [(a25, .inr (12, [.ref u265_70, .int 0, .int tla25, .int u265_73])), (u265_70, .inl (C 1, u265_71, .inl u265_72))]) [2, 3] (by decide) rfl
              have hFc := va_free (wc := [(a25, .inr (12, [.ref u265_70, .int 0, .int tla25, .int u265_73])), (u265_70, .inl (C 1, u265_71, .inl u265_72))]) hD hS hA [2, 3] rfl
              obtain ⟨mb270, sb270, hbk, hwp⟩ := hwp
              refine va_callr (va_runV (As := [.int r213]) (rest := []) ⟨hx, hb, hml, hown, hts⟩ (met_J4_append_bf812 l hst D C a25 r213 u265_70 u265_71 u265_72 u265_73 tla25 mb270 sb270 H.size _ hwp) (cwV 1 hts gc_L_51 rfl rfl rfl (by decide +kernel) ⟨Nat.le_of_ble_eq_true rfl, Nat.le_of_ble_eq_true rfl⟩) ⟨fun a U g mk q => by obtain ⟨q0, q1, qP, qK, qD, qT⟩ := q; exact ⟨q0, q1, qP, va_K.moved (u := U) (U := U.calling g mk a) (Vm.Alike.refl U.vm) qK, qD, qT.mv (U := U.calling g mk a) (State.WarmedH.refl U)⟩, va_recv hK hPc (ci := 12) (q0 := 0) rfl rfl, fun U hU hW => ⟨rfl, by rw [hU], by rw [hU]; exact hPc, va_K.moved hW.alike hK, hDc.weaken (fun _ _ _ _ => trivial), hT.call hS hFc hU hW⟩⟩ rfl rfl hl.1 rfl (lv_room (Nat.le_of_ble_eq_true rfl)) dL_load_270 ⟨hbk.1, hbk.2⟩) hS (fun q _ h => hFc q h) hFc (fun u ra t H1 locs ht hvm hwp hB hz1 hk1 hS => ?_)
              obtain ⟨u270_74, u270_75, u270_76, u270_77⟩ := u
              obtain ⟨hra, hP1, -, hD1⟩ := hB
              have hra := hra.symm
              subst hra
              rw [ht] at hP1
              obtain ⟨hP, hD⟩ := bd_joinL (lr := [(a169, .inl (C 0, 8, .inl ta169)), (a175, .inl (C 0, 8, .inl ta175))]) (l1 := [(a25, .inr (12, [.ref u270_74, .int 0, .int tla25, .int u270_77])), (u270_74, .inl (C 1, u270_75, .inl u270_76))]) hP hD [2, 3] [0, 1] rfl rfl (by decide) (by decide) hk1 hFc hP1 hD1
              generalize H1 = H at hP hS ⊢
              have hP : va_P D vwCl ([(a169, .inl (C 0, 8, .inl ta169)), (a175, .inl (C 0, 8, .inl ta175)), (a25, .inr (12, [.ref u270_74, .int 0, .int tla25, .int u270_77])), (u270_74, .inl (C 1, u270_75, .inl u270_76))] ++ wK C ad d) H := hP
              have hD : va_D A ([(a169, .inl (C 0, 8, .inl ta169)), (a175, .inl (C 0, 8, .inl ta175)), (a25, .inr (12, [.ref u270_74, .int 0, .int tla25, .int u270_77])), (u270_74, .inl (C 1, u270_75, .inl u270_76))] ++ wK C ad d) := hD
              obtain ⟨sa273, hr_sa273, hs_sa273⟩ := hT.2.2.2.2.2.1 ("ParetoDeskLaw", 69, " ", [32]) (by decide)
              refine va_ldcS (own := RL) (tx := " ") hx hb hown hr_sa273 dL_load_273 ?_
              have hPc := hP.sub (ws' := [(a25, .inr (12, [.ref u270_74, .int 0, .int tla25, .int u270_77])), (u270_74, .inl (C 1, u270_75, .inl u270_76))]) [2, 3] rfl
              have hDc := hD.sub (ws' := [(a25, .inr (12, [.ref u270_74, .int 0, .int tla25, .int u270_77])), (u270_74, .inl (C 1, u270_75, .inl u270_76))]) [2, 3] (by decide) rfl
              have hFc := va_free (wc := [(a25, .inr (12, [.ref u270_74, .int 0, .int tla25, .int u270_77])), (u270_74, .inl (C 1, u270_75, .inl u270_76))]) hD hS hA [2, 3] rfl
              obtain ⟨mb275, sb275, hbk, hwp⟩ := hwp
              refine va_callr (va_runV (As := [.ref sa273]) (rest := []) ⟨hx, hb, hml, hown, hts⟩ (met_J4_append_15ec4 l hst D C a25 sa273 ([32]) u270_74 u270_75 u270_76 u270_77 tla25 mb275 sb275 H.size _ hwp) (cwV 1 hts gc_L_56 rfl rfl rfl (by decide +kernel) ⟨Nat.le_of_ble_eq_true rfl, Nat.le_of_ble_eq_true rfl⟩) ⟨fun a U g mk q => by obtain ⟨q0, q1, qP, qK, qD, qT, qS_q1⟩ := q; exact ⟨q0, q1, qP, va_K.moved (u := U) (U := U.calling g mk a) (Vm.Alike.refl U.vm) qK, qD, qT.mv (U := U.calling g mk a) (State.WarmedH.refl U), qS_q1.moved (U := U.calling g mk a) (Vm.Alike.refl U.vm)⟩, va_recv hK hPc (ci := 12) (q0 := 0) rfl rfl, fun U hU hW => ⟨rfl, by rw [hU], by rw [hU]; exact hPc, va_K.moved hW.alike hK, hDc.weaken (fun _ _ _ _ => trivial), hT.call hS hFc hU hW, hs_sa273.call hS hFc hU hW⟩⟩ rfl rfl hl.1 rfl (lv_room (Nat.le_of_ble_eq_true rfl)) dL_load_275 ⟨hbk.1, hbk.2⟩) hS (fun q _ h => hFc q h) hFc (fun u ra t H1 locs ht hvm hwp hB hz1 hk1 hS => ?_)
              obtain ⟨u275_78, u275_79, u275_80, u275_81⟩ := u
              obtain ⟨hra, hP1, -, hD1⟩ := hB
              have hra := hra.symm
              subst hra
              rw [ht] at hP1
              obtain ⟨hP, hD⟩ := bd_joinL (lr := [(a169, .inl (C 0, 8, .inl ta169)), (a175, .inl (C 0, 8, .inl ta175))]) (l1 := [(a25, .inr (12, [.ref u275_78, .int 0, .int tla25, .int u275_81])), (u275_78, .inl (C 1, u275_79, .inl u275_80))]) hP hD [2, 3] [0, 1] rfl rfl (by decide) (by decide) hk1 hFc hP1 hD1
              generalize H1 = H at hP hS ⊢
              have hP : va_P D vwCl ([(a169, .inl (C 0, 8, .inl ta169)), (a175, .inl (C 0, 8, .inl ta175)), (a25, .inr (12, [.ref u275_78, .int 0, .int tla25, .int u275_81])), (u275_78, .inl (C 1, u275_79, .inl u275_80))] ++ wK C ad d) H := hP
              have hD : va_D A ([(a169, .inl (C 0, 8, .inl ta169)), (a175, .inl (C 0, 8, .inl ta175)), (a25, .inr (12, [.ref u275_78, .int 0, .int tla25, .int u275_81])), (u275_78, .inl (C 1, u275_79, .inl u275_80))] ++ wK C ad d) := hD
              refine lv_iload hx hb dL_load_278 (lv_at hl 0 rfl) ?_
              have hPc := hP.sub (ws' := [(a25, .inr (12, [.ref u275_78, .int 0, .int tla25, .int u275_81])), (u275_78, .inl (C 1, u275_79, .inl u275_80))]) [2, 3] rfl
              have hDc := hD.sub (ws' := [(a25, .inr (12, [.ref u275_78, .int 0, .int tla25, .int u275_81])), (u275_78, .inl (C 1, u275_79, .inl u275_80))]) [2, 3] (by decide) rfl
              have hFc := va_free (wc := [(a25, .inr (12, [.ref u275_78, .int 0, .int tla25, .int u275_81])), (u275_78, .inl (C 1, u275_79, .inl u275_80))]) hD hS hA [2, 3] rfl
              obtain ⟨mb280, sb280, hbk, hwp⟩ := hwp
              refine va_callr (va_runV (As := [.int v239]) (rest := []) ⟨hx, hb, hml, hown, hts⟩ (met_J4_append_bf812 l hst D C a25 v239 u275_78 u275_79 u275_80 u275_81 tla25 mb280 sb280 H.size _ hwp) (cwV 1 hts gc_L_51 rfl rfl rfl (by decide +kernel) ⟨Nat.le_of_ble_eq_true rfl, Nat.le_of_ble_eq_true rfl⟩) ⟨fun a U g mk q => by obtain ⟨q0, q1, qP, qK, qD, qT⟩ := q; exact ⟨q0, q1, qP, va_K.moved (u := U) (U := U.calling g mk a) (Vm.Alike.refl U.vm) qK, qD, qT.mv (U := U.calling g mk a) (State.WarmedH.refl U)⟩, va_recv hK hPc (ci := 12) (q0 := 0) rfl rfl, fun U hU hW => ⟨rfl, by rw [hU], by rw [hU]; exact hPc, va_K.moved hW.alike hK, hDc.weaken (fun _ _ _ _ => trivial), hT.call hS hFc hU hW⟩⟩ rfl rfl hl.1 rfl (lv_room (Nat.le_of_ble_eq_true rfl)) dL_load_280 ⟨hbk.1, hbk.2⟩) hS (fun q _ h => hFc q h) hFc (fun u ra t H1 locs ht hvm hwp hB hz1 hk1 hS => ?_)
              obtain ⟨u280_82, u280_83, u280_84, u280_85⟩ := u
              obtain ⟨hra, hP1, -, hD1⟩ := hB
              have hra := hra.symm
              subst hra
              rw [ht] at hP1
              obtain ⟨hP, hD⟩ := bd_joinL (lr := [(a169, .inl (C 0, 8, .inl ta169)), (a175, .inl (C 0, 8, .inl ta175))]) (l1 := [(a25, .inr (12, [.ref u280_82, .int 0, .int tla25, .int u280_85])), (u280_82, .inl (C 1, u280_83, .inl u280_84))]) hP hD [2, 3] [0, 1] rfl rfl (by decide) (by decide) hk1 hFc hP1 hD1
              generalize H1 = H at hP hS ⊢
              have hP : va_P D vwCl ([(a169, .inl (C 0, 8, .inl ta169)), (a175, .inl (C 0, 8, .inl ta175)), (a25, .inr (12, [.ref u280_82, .int 0, .int tla25, .int u280_85])), (u280_82, .inl (C 1, u280_83, .inl u280_84))] ++ wK C ad d) H := hP
              have hD : va_D A ([(a169, .inl (C 0, 8, .inl ta169)), (a175, .inl (C 0, 8, .inl ta175)), (a25, .inr (12, [.ref u280_82, .int 0, .int tla25, .int u280_85])), (u280_82, .inl (C 1, u280_83, .inl u280_84))] ++ wK C ad d) := hD
              obtain ⟨sa283, hr_sa283, hs_sa283⟩ := hT.2.2.2.2.2.1 ("ParetoDeskLaw", 59, ";", [59]) (by decide)
              refine va_ldcS (own := RL) (tx := ";") hx hb hown hr_sa283 dL_load_283 ?_
              have hPc := hP.sub (ws' := [(a25, .inr (12, [.ref u280_82, .int 0, .int tla25, .int u280_85])), (u280_82, .inl (C 1, u280_83, .inl u280_84))]) [2, 3] rfl
              have hDc := hD.sub (ws' := [(a25, .inr (12, [.ref u280_82, .int 0, .int tla25, .int u280_85])), (u280_82, .inl (C 1, u280_83, .inl u280_84))]) [2, 3] (by decide) rfl
              have hFc := va_free (wc := [(a25, .inr (12, [.ref u280_82, .int 0, .int tla25, .int u280_85])), (u280_82, .inl (C 1, u280_83, .inl u280_84))]) hD hS hA [2, 3] rfl
              obtain ⟨mb285, sb285, hbk, hwp⟩ := hwp
              refine va_callr (va_runV (As := [.ref sa283]) (rest := []) ⟨hx, hb, hml, hown, hts⟩ (met_J4_append_15ec4 l hst D C a25 sa283 ([59]) u280_82 u280_83 u280_84 u280_85 tla25 mb285 sb285 H.size _ hwp) (cwV 1 hts gc_L_56 rfl rfl rfl (by decide +kernel) ⟨Nat.le_of_ble_eq_true rfl, Nat.le_of_ble_eq_true rfl⟩) ⟨fun a U g mk q => by obtain ⟨q0, q1, qP, qK, qD, qT, qS_q1⟩ := q; exact ⟨q0, q1, qP, va_K.moved (u := U) (U := U.calling g mk a) (Vm.Alike.refl U.vm) qK, qD, qT.mv (U := U.calling g mk a) (State.WarmedH.refl U), qS_q1.moved (U := U.calling g mk a) (Vm.Alike.refl U.vm)⟩, va_recv hK hPc (ci := 12) (q0 := 0) rfl rfl, fun U hU hW => ⟨rfl, by rw [hU], by rw [hU]; exact hPc, va_K.moved hW.alike hK, hDc.weaken (fun _ _ _ _ => trivial), hT.call hS hFc hU hW, hs_sa283.call hS hFc hU hW⟩⟩ rfl rfl hl.1 rfl (lv_room (Nat.le_of_ble_eq_true rfl)) dL_load_285 ⟨hbk.1, hbk.2⟩) hS (fun q _ h => hFc q h) hFc (fun u ra t H1 locs ht hvm hwp hB hz1 hk1 hS => ?_)
              obtain ⟨u285_86, u285_87, u285_88, u285_89⟩ := u
              obtain ⟨hra, hP1, -, hD1⟩ := hB
              have hra := hra.symm
              subst hra
              rw [ht] at hP1
              obtain ⟨hP, hD⟩ := bd_joinL (lr := [(a169, .inl (C 0, 8, .inl ta169)), (a175, .inl (C 0, 8, .inl ta175))]) (l1 := [(a25, .inr (12, [.ref u285_86, .int 0, .int tla25, .int u285_89])), (u285_86, .inl (C 1, u285_87, .inl u285_88))]) hP hD [2, 3] [0, 1] rfl rfl (by decide) (by decide) hk1 hFc hP1 hD1
              generalize H1 = H at hP hS ⊢
              have hP : va_P D vwCl ([(a169, .inl (C 0, 8, .inl ta169)), (a175, .inl (C 0, 8, .inl ta175)), (a25, .inr (12, [.ref u285_86, .int 0, .int tla25, .int u285_89])), (u285_86, .inl (C 1, u285_87, .inl u285_88))] ++ wK C ad d) H := hP
              have hD : va_D A ([(a169, .inl (C 0, 8, .inl ta169)), (a175, .inl (C 0, 8, .inl ta175)), (a25, .inr (12, [.ref u285_86, .int 0, .int tla25, .int u285_89])), (u285_86, .inl (C 1, u285_87, .inl u285_88))] ++ wK C ad d) := hD
              refine lv_pop hx hb dL_load_288 rfl ?_
              refine lv_aload hx hb dL_load_289 (lv_at hl 7 rfl) ?_
              refine lv_iload hx hb dL_load_291 (lv_at hl 1 rfl) ?_
              refine lv_dup2_11 hx hb dL_load_293 rfl rfl ?_
              obtain ⟨hi294, hwp⟩ := hwp
              refine va_iald (D := D) hx hb hK hP 0 0 rfl rfl hi294 dL_load_294 ?_
              refine lv_iconst (v := 1) hx hb dL_load_295 (by decide) ?_
              refine lv_iload hx hb dL_load_296 (lv_at hl 0 rfl) ?_
              refine lv_ishl hx hb dL_load_298 ?_
              refine lv_ior hx hb dL_load_299 ?_
              obtain ⟨hi300, hwp⟩ := hwp
              refine va_iast (D := D) hx hb hK hP hD hS 0 0 rfl rfl hi300 dL_load_300 (fun H locs hP hD hS => ?_)
              have hP : va_P D vwCl ([(a169, .inl (C 0, 8, .inl (upd ta169 r213.toNatClampNeg ((ta169 r213.toNatClampNeg) ||| ((1 : Int32) <<< (v239 &&& 31)))))), (a175, .inl (C 0, 8, .inl ta175)), (a25, .inr (12, [.ref u285_86, .int 0, .int tla25, .int u285_89])), (u285_86, .inl (C 1, u285_87, .inl u285_88))] ++ wK C ad d) H := hP
              have hD : va_D A ([(a169, .inl (C 0, 8, .inl (upd ta169 r213.toNatClampNeg ((ta169 r213.toNatClampNeg) ||| ((1 : Int32) <<< (v239 &&& 31)))))), (a175, .inl (C 0, 8, .inl ta175)), (a25, .inr (12, [.ref u285_86, .int 0, .int tla25, .int u285_89])), (u285_86, .inl (C 1, u285_87, .inl u285_88))] ++ wK C ad d) := hD
              refine lv_aload hx hb dL_load_301 (lv_at hl 7 rfl) ?_
              refine lv_iload hx hb dL_load_303 (lv_at hl 0 rfl) ?_
              refine lv_dup2_11 hx hb dL_load_305 rfl rfl ?_
              obtain ⟨hi306, hwp⟩ := hwp
              refine va_iald (D := D) hx hb hK hP 0 0 rfl rfl hi306 dL_load_306 ?_
              refine lv_iconst (v := 1) hx hb dL_load_307 (by decide) ?_
              refine lv_iload hx hb dL_load_308 (lv_at hl 1 rfl) ?_
              refine lv_ishl hx hb dL_load_310 ?_
              refine lv_ior hx hb dL_load_311 ?_
              obtain ⟨hi312, hwp⟩ := hwp
              refine va_iast (D := D) hx hb hK hP hD hS 0 0 rfl rfl hi312 dL_load_312 (fun H locs hP hD hS => ?_)
              have hP : va_P D vwCl ([(a169, .inl (C 0, 8, .inl (upd (upd ta169 r213.toNatClampNeg ((ta169 r213.toNatClampNeg) ||| ((1 : Int32) <<< (v239 &&& 31)))) v239.toNatClampNeg (((upd ta169 r213.toNatClampNeg ((ta169 r213.toNatClampNeg) ||| ((1 : Int32) <<< (v239 &&& 31)))) v239.toNatClampNeg) ||| ((1 : Int32) <<< (r213 &&& 31)))))), (a175, .inl (C 0, 8, .inl ta175)), (a25, .inr (12, [.ref u285_86, .int 0, .int tla25, .int u285_89])), (u285_86, .inl (C 1, u285_87, .inl u285_88))] ++ wK C ad d) H := hP
              have hD : va_D A ([(a169, .inl (C 0, 8, .inl (upd (upd ta169 r213.toNatClampNeg ((ta169 r213.toNatClampNeg) ||| ((1 : Int32) <<< (v239 &&& 31)))) v239.toNatClampNeg (((upd ta169 r213.toNatClampNeg ((ta169 r213.toNatClampNeg) ||| ((1 : Int32) <<< (v239 &&& 31)))) v239.toNatClampNeg) ||| ((1 : Int32) <<< (r213 &&& 31)))))), (a175, .inl (C 0, 8, .inl ta175)), (a25, .inr (12, [.ref u285_86, .int 0, .int tla25, .int u285_89])), (u285_86, .inl (C 1, u285_87, .inl u285_88))] ++ wK C ad d) := hD
              refine lv_iinc (v := x7 + 1) (lv' := [(7, .int (x7 + 1)), (11, .int v239), (10, .int r213), (0, .ref (ad 0)), (1, .ref q1), (2, .int x2), (3, .int x3), (4, .ref a25), (5, .ref a169), (6, .ref a175), (8, .int x8), (9, .int x9)]) hx hb dL_load_313 hl (k := 9) rfl rfl (by decide) rfl (fun ls hl => ?_)
              obtain ⟨hbk, hwp⟩ := hwp
              refine W.widen (k := (12 + u285_87)) (n := (140 + 2 * u285_87)) hbk.1 hbk.2 ?_
              have hl9 := lv_sub (l' := [(0, .ref (ad 0)), (1, .ref q1), (2, .int x2), (3, .int x3), (4, .ref a25), (5, .ref a169), (6, .ref a175), (7, .int (x7 + 1)), (8, .int x8), (9, .int x9), (10, .int r213), (11, .int v239)]) hl [3, 4, 5, 6, 7, 8, 9, 0, 10, 11, 2, 1] rfl
              have hP9 : va_P D vwCl ([(a25, .inr (12, [.ref u285_86, .int 0, .int tla25, .int u285_89])), (u285_86, .inl (C 1, u285_87, .inl u285_88)), (a169, .inl (C 0, 8, .inl (upd (upd ta169 r213.toNatClampNeg ((ta169 r213.toNatClampNeg) ||| ((1 : Int32) <<< (v239 &&& 31)))) v239.toNatClampNeg (((upd ta169 r213.toNatClampNeg ((ta169 r213.toNatClampNeg) ||| ((1 : Int32) <<< (v239 &&& 31)))) v239.toNatClampNeg) ||| ((1 : Int32) <<< (r213 &&& 31)))))), (a175, .inl (C 0, 8, .inl ta175))] ++ wK C ad d) H := bd_P (lc := [(a25, .inr (12, [.ref u285_86, .int 0, .int tla25, .int u285_89])), (u285_86, .inl (C 1, u285_87, .inl u285_88)), (a169, .inl (C 0, 8, .inl (upd (upd ta169 r213.toNatClampNeg ((ta169 r213.toNatClampNeg) ||| ((1 : Int32) <<< (v239 &&& 31)))) v239.toNatClampNeg (((upd ta169 r213.toNatClampNeg ((ta169 r213.toNatClampNeg) ||| ((1 : Int32) <<< (v239 &&& 31)))) v239.toNatClampNeg) ||| ((1 : Int32) <<< (r213 &&& 31)))))), (a175, .inl (C 0, 8, .inl ta175))]) hP [2, 3, 0, 1] rfl
              have hD9 : va_D A ([(a25, .inr (12, [.ref u285_86, .int 0, .int tla25, .int u285_89])), (u285_86, .inl (C 1, u285_87, .inl u285_88)), (a169, .inl (C 0, 8, .inl (upd (upd ta169 r213.toNatClampNeg ((ta169 r213.toNatClampNeg) ||| ((1 : Int32) <<< (v239 &&& 31)))) v239.toNatClampNeg (((upd ta169 r213.toNatClampNeg ((ta169 r213.toNatClampNeg) ||| ((1 : Int32) <<< (v239 &&& 31)))) v239.toNatClampNeg) ||| ((1 : Int32) <<< (r213 &&& 31)))))), (a175, .inl (C 0, 8, .inl ta175))] ++ wK C ad d) := bd_D (lc := [(a25, .inr (12, [.ref u285_86, .int 0, .int tla25, .int u285_89])), (u285_86, .inl (C 1, u285_87, .inl u285_88)), (a169, .inl (C 0, 8, .inl (upd (upd ta169 r213.toNatClampNeg ((ta169 r213.toNatClampNeg) ||| ((1 : Int32) <<< (v239 &&& 31)))) v239.toNatClampNeg (((upd ta169 r213.toNatClampNeg ((ta169 r213.toNatClampNeg) ||| ((1 : Int32) <<< (v239 &&& 31)))) v239.toNatClampNeg) ||| ((1 : Int32) <<< (r213 &&& 31)))))), (a175, .inl (C 0, 8, .inl ta175))]) hD [2, 3, 0, 1] rfl (by decide)
              exact HB316 a25 a169 a175 x2 x3 d tla25 _ (fun z0 z1 z2 z3 z4 z5 z6 z7 z8 H locs ls hl hP hD hS hwp => ih z0 z1 z2 z3 z4 z5 z6 z7 z8 H locs ls hl hP hD hS hwp) _ hk386 (x7 + 1) x8 x9 r213 v239 u285_86 u285_87 u285_88 u285_89 (upd (upd ta169 r213.toNatClampNeg ((ta169 r213.toNatClampNeg) ||| ((1 : Int32) <<< (v239 &&& 31)))) v239.toNatClampNeg (((upd ta169 r213.toNatClampNeg ((ta169 r213.toNatClampNeg) ||| ((1 : Int32) <<< (v239 &&& 31)))) v239.toNatClampNeg) ||| ((1 : Int32) <<< (r213 &&& 31)))) ta175 H locs ls hl9 hP9 hD9 hS hwp
  have HL615 : ∀ (a169 : Nat) (a175 : Nat) (x2 : Int32) (x3 : Int32) (x11 : Int32) (ta169 : Nat → Int32) (ta175 : Nat → Int32) (k655 : DT → Prop) (hk655 : ∀ (d : DT) (H : Heap) (locs : List Loc) (ls : Array Slot), lv_has ls 13 [(0, .ref (ad 0)), (1, .ref q1), (2, .int x2), (3, .int x3), (5, .ref a169), (6, .ref a175), (11, .int x11)] → va_P D vwCl ([(a169, .inl (C 0, 8, .inl ta169)), (a175, .inl (C 0, 8, .inl ta175))] ++ wK C ad d) H → va_D A ([(a169, .inl (C 0, 8, .inl ta169)), (a175, .inl (C 0, 8, .inl ta175))] ++ wK C ad d) → va_S A s.heap H locs → k655 d → W p l e (headSpec ws_L_load rm_L_load).room s m ([.ref (ad 0), .ref q1] : List Value).toArray below meth c H locs 3000 6000 (MQ below (q_L_load D C ad q1 sn1 sx1 Q A) ([.ref (ad 0), .ref q1] : List Value).toArray s 3000 6000 A) (F0 m 655 ls [])) (n615 : Nat) (x12 : Int32) (d : DT) (H : Heap) (locs : List Loc) (ls : Array Slot), lv_has ls 13 [(0, .ref (ad 0)), (1, .ref q1), (2, .int x2), (3, .int x3), (5, .ref a169), (6, .ref a175), (11, .int x11), (12, .int x12)] → va_P D vwCl ([(a169, .inl (C 0, 8, .inl ta169)), (a175, .inl (C 0, 8, .inl ta175))] ++ wK C ad d) H → va_D A ([(a169, .inl (C 0, 8, .inl ta169)), (a175, .inl (C 0, 8, .inl ta175))] ++ wK C ad d) → va_S A s.heap H locs → wp_L_load_L615 sn1 sx1 x2 x3 x11 ta169 ta175 k655 Q n615 x12 d → W p l e (headSpec ws_L_load rm_L_load).room s m ([.ref (ad 0), .ref q1] : List Value).toArray below meth c H locs 3000 6000 (MQ below (q_L_load D C ad q1 sn1 sx1 Q A) ([.ref (ad 0), .ref q1] : List Value).toArray s 3000 6000 A) (F0 m 615 ls []) := by
    intro a169 a175 x2 x3 x11 ta169 ta175 k655 hk655 n615
    induction n615 with
    | zero =>
      intro x12 d H locs ls hl hP hD hS hwp
      exact False.elim hwp
    | succ n615 ih =>
      intro x12 d H locs ls hl hP hD hS hwp
      unfold wp_L_load_L615 at hwp
      refine lv_iload hx hb dL_load_615 (lv_at hl 7 rfl) ?_
      refine lv_iconst (v := 3) hx hb dL_load_617 (by decide) ?_
      refine lv_icmp_ge (tgt := 655) hx hb dL_load_618 (by decide) (fun c618 => ?_) (fun c618 => ?_)
      · have hwp := hwp.1 c618
        obtain ⟨hbk, hwp⟩ := hwp
        refine W.widen (k := 3000) (n := 6000) hbk.1 hbk.2 ?_
        have hl9 := lv_sub (l' := [(0, .ref (ad 0)), (1, .ref q1), (2, .int x2), (3, .int x3), (5, .ref a169), (6, .ref a175), (11, .int x11)]) hl [0, 1, 2, 3, 4, 5, 6] rfl
        have hP9 : va_P D vwCl ([(a169, .inl (C 0, 8, .inl ta169)), (a175, .inl (C 0, 8, .inl ta175))] ++ wK C ad d) H := bd_P (lc := [(a169, .inl (C 0, 8, .inl ta169)), (a175, .inl (C 0, 8, .inl ta175))]) hP [0, 1] rfl
        have hD9 : va_D A ([(a169, .inl (C 0, 8, .inl ta169)), (a175, .inl (C 0, 8, .inl ta175))] ++ wK C ad d) := bd_D (lc := [(a169, .inl (C 0, 8, .inl ta169)), (a175, .inl (C 0, 8, .inl ta175))]) hD [0, 1] rfl (by decide)
        exact hk655 d H locs ls hl9 hP9 hD9 hS hwp
      · have hwp := hwp.2 c618
        refine lv_aload_n hx hb dL_load_621 rfl (lv_at hl 0 rfl) ?_
        refine lv_iload hx hb dL_load_622 (lv_at hl 6 rfl) ?_
        refine lv_iload hx hb dL_load_624 (lv_at hl 7 rfl) ?_
        have hPc : va_P D vwCl ([] ++ wK C ad d) H := bd_P (lc := []) hP [] rfl
        have hDc : va_D A ([] ++ wK C ad d) := bd_D (lc := []) hD [] rfl (by decide)
        have hFc : ∀ q, va_A ([] ++ wK C ad d) H.size q → A q := bd_free (lc := []) hD hS hA [] rfl
        obtain ⟨hbk, hwp⟩ := hwp
        refine va_calli (va_runV (As := [.int x11, .int x12]) (rest := []) ⟨hx, hb, hml, hown, hts⟩ (mk_X10_item l hst D C ad x11 x12 d H.size _ hwp) (cwV 2 hts gc_L_98 rfl rfl rfl (by decide +kernel) ⟨Nat.le_of_ble_eq_true rfl, Nat.le_of_ble_eq_true rfl⟩) ⟨fun a U g mk q => by obtain ⟨q0, q1, qP, qK, qD, qT⟩ := q; exact ⟨q0, q1, qP, va_K.moved (u := U) (U := U.calling g mk a) (Vm.Alike.refl U.vm) qK, qD, qT.mv (U := U.calling g mk a) (State.WarmedH.refl U)⟩, va_recv hK hPc (ci := 10) (q0 := 0) rfl rfl, fun U hU hW => ⟨rfl, by rw [hU], by rw [hU]; exact hPc, va_K.moved hW.alike hK, hDc.weaken (fun _ _ _ _ => trivial), hT.call hS hFc hU hW⟩⟩ rfl rfl hl.1 rfl (lv_room (Nat.le_of_ble_eq_true rfl)) dL_load_626 ⟨hbk.1, hbk.2⟩) hS (fun q _ h => hFc q h) hFc (fun r626 u t H1 locs ht hvm hwp hB hz1 hk1 hS => ?_)
        obtain ⟨u626_104, rfl⟩ : ∃ z, z = u := ⟨_, rfl⟩
        obtain ⟨hP1, -, hD1⟩ := hB
        rw [ht] at hP1
        obtain ⟨hP, hD⟩ := bd_join (lr := [(a169, .inl (C 0, 8, .inl ta169)), (a175, .inl (C 0, 8, .inl ta175))]) (l1 := []) (b1 := wK C ad u626_104) hP hD [] [0, 1] rfl rfl (by decide) (by decide) hk1 hFc hP1 hD1
        generalize H1 = H at hP hS ⊢
        have hP : va_P D vwCl ([(a169, .inl (C 0, 8, .inl ta169)), (a175, .inl (C 0, 8, .inl ta175))] ++ wK C ad u626_104) H := hP
        have hD : va_D A ([(a169, .inl (C 0, 8, .inl ta169)), (a175, .inl (C 0, 8, .inl ta175))] ++ wK C ad u626_104) := hD
        refine lv_aload_n hx hb dL_load_629 rfl (lv_at hl 1 rfl) ?_
        refine lv_bipush (v := 10) hx hb dL_load_630 (by decide) ?_
        refine lv_iload hx hb dL_load_632 (lv_at hl 7 rfl) ?_
        refine lv_iadd hx hb dL_load_634 ?_
        refine lv_iconst (v := 3) hx hb dL_load_635 (by decide) ?_
        refine lv_iload hx hb dL_load_636 (lv_at hl 6 rfl) ?_
        refine lv_imul hx hb dL_load_638 ?_
        refine lv_iadd hx hb dL_load_639 ?_
        refine lv_iload_n hx hb dL_load_640 rfl (lv_at hl 3 rfl) ?_
        have hPc := hP.sub (ws' := []) [] rfl
        have hDc := hD.sub (ws' := []) [] (by decide) rfl
        have hFc := va_free (wc := []) hD hS hA [] rfl
        obtain ⟨hbk, hwp⟩ := hwp
        refine va_calli (va_runS (As := [.ref q1, .int (((10 : Int32) + x12) + ((3 : Int32) * x11)), .int x3]) (rest := [.int r626]) ⟨hx, hb, hml, hown, hts⟩ (met_L_draw l hst D C q1 (((10 : Int32) + x12) + ((3 : Int32) * x11)) x3 sn1 sx1 H.size _ hwp) (va_cwS 3 hts gc_L_40 rfl rfl rfl (by decide +kernel) ⟨Nat.le_of_ble_eq_true rfl, Nat.le_of_ble_eq_true rfl⟩) ⟨fun a U g mk q => by obtain ⟨q0, q1, qP, qK, qD, qT, qS_q0⟩ := q; exact ⟨q0, q1, qP, va_K.moved (u := U) (U := U.calling g mk a) (Vm.Alike.refl U.vm) qK, qD, qT.mv (U := U.calling g mk a) (State.WarmedH.refl U), qS_q0.moved (U := U.calling g mk a) (Vm.Alike.refl U.vm)⟩, fun U hU hW => ⟨rfl, by rw [hU], by rw [hU]; exact hPc, va_K.moved hW.alike hK, hDc.weaken (fun _ _ _ _ => trivial), hT.call hS hFc hU hW, hs_q1.call hS hFc hU hW⟩⟩ rfl rfl hl.1 rfl (lv_room (Nat.le_of_ble_eq_true rfl)) dL_load_641 ⟨hbk.1, hbk.2⟩) hS (fun q _ h => hFc q h) hFc (fun r641 u t H1 locs ht hvm hwp hB hz1 hk1 hS => ?_)
        obtain ⟨hP1, -, hD1⟩ := hB
        rw [ht] at hP1
        obtain ⟨hP, hD⟩ := bd_joinL (lr := [(a169, .inl (C 0, 8, .inl ta169)), (a175, .inl (C 0, 8, .inl ta175))]) (l1 := []) hP hD [] [0, 1] rfl rfl (by decide) (by decide) hk1 hFc hP1 hD1
        generalize H1 = H at hP hS ⊢
        have hP : va_P D vwCl ([(a169, .inl (C 0, 8, .inl ta169)), (a175, .inl (C 0, 8, .inl ta175))] ++ wK C ad u626_104) H := hP
        have hD : va_D A ([(a169, .inl (C 0, 8, .inl ta169)), (a175, .inl (C 0, 8, .inl ta175))] ++ wK C ad u626_104) := hD
        refine lv_icmp_eq (tgt := 649) hx hb dL_load_644 (by decide) (fun c644 => ?_) (fun c644 => ?_)
        · have hwp := hwp.1 c644
          refine lv_iinc (v := x12 + 1) (lv' := [(12, .int (x12 + 1)), (0, .ref (ad 0)), (1, .ref q1), (2, .int x2), (3, .int x3), (5, .ref a169), (6, .ref a175), (11, .int x11)]) hx hb dL_load_649 hl (k := 7) rfl rfl (by decide) rfl (fun ls hl => ?_)
          refine lv_goto (tgt := 615) hx hb dL_load_652 (by decide) ?_
          obtain ⟨hbk, hwp⟩ := hwp
          refine W.widen (k := 3000) (n := 6000) hbk.1 hbk.2 ?_
          have hl9 := lv_sub (l' := [(0, .ref (ad 0)), (1, .ref q1), (2, .int x2), (3, .int x3), (5, .ref a169), (6, .ref a175), (11, .int x11), (12, .int (x12 + 1))]) hl [1, 2, 3, 4, 5, 6, 7, 0] rfl
          have hP9 : va_P D vwCl ([(a169, .inl (C 0, 8, .inl ta169)), (a175, .inl (C 0, 8, .inl ta175))] ++ wK C ad u626_104) H := bd_P (lc := [(a169, .inl (C 0, 8, .inl ta169)), (a175, .inl (C 0, 8, .inl ta175))]) hP [0, 1] rfl
          have hD9 : va_D A ([(a169, .inl (C 0, 8, .inl ta169)), (a175, .inl (C 0, 8, .inl ta175))] ++ wK C ad u626_104) := bd_D (lc := [(a169, .inl (C 0, 8, .inl ta169)), (a175, .inl (C 0, 8, .inl ta175))]) hD [0, 1] rfl (by decide)
          exact ih (x12 + 1) u626_104 H locs ls hl9 hP9 hD9 hS hwp
        · have hwp := hwp.2 c644
          refine lv_iconst (v := 0) hx hb dL_load_647 (by decide) ?_
          have hP9 : va_P D vwCl ([] ++ wK C ad u626_104) H := bd_P (lc := []) hP [] rfl
          have hD9 : va_D A ([] ++ wK C ad u626_104) := bd_D (lc := []) hD [] rfl (by decide)
          exact W.zret (v := (0 : Int32)) (ty := .boolean) hx hb hr rfl (fun t ht hW => ⟨⟨(0 : Int32), (u626_104), rfl, hwp, by rw [ht]; exact hP9, va_K.moved hW.alike hK, hD9⟩, hS.F ht⟩) hS.2.2 dL_load_648
  have HL606 : ∀ (a169 : Nat) (a175 : Nat) (x2 : Int32) (x3 : Int32) (ta169 : Nat → Int32) (ta175 : Nat → Int32) (n606 : Nat) (x11 : Int32) (d : DT) (H : Heap) (locs : List Loc) (ls : Array Slot), lv_has ls 13 [(0, .ref (ad 0)), (1, .ref q1), (2, .int x2), (3, .int x3), (5, .ref a169), (6, .ref a175), (11, .int x11)] → va_P D vwCl ([(a169, .inl (C 0, 8, .inl ta169)), (a175, .inl (C 0, 8, .inl ta175))] ++ wK C ad d) H → va_D A ([(a169, .inl (C 0, 8, .inl ta169)), (a175, .inl (C 0, 8, .inl ta175))] ++ wK C ad d) → va_S A s.heap H locs → wp_L_load_L606 sn1 sx1 x2 x3 ta169 ta175 Q n606 x11 d → W p l e (headSpec ws_L_load rm_L_load).room s m ([.ref (ad 0), .ref q1] : List Value).toArray below meth c H locs 3000 6000 (MQ below (q_L_load D C ad q1 sn1 sx1 Q A) ([.ref (ad 0), .ref q1] : List Value).toArray s 3000 6000 A) (F0 m 606 ls []) := by
    intro a169 a175 x2 x3 ta169 ta175 n606
    induction n606 with
    | zero =>
      intro x11 d H locs ls hl hP hD hS hwp
      exact False.elim hwp
    | succ n606 ih =>
      intro x11 d H locs ls hl hP hD hS hwp
      unfold wp_L_load_L606 at hwp
      refine lv_iload hx hb dL_load_606 (lv_at hl 6 rfl) ?_
      refine lv_iload_n hx hb dL_load_608 rfl (lv_at hl 2 rfl) ?_
      refine lv_icmp_ge (tgt := 693) hx hb dL_load_609 (by decide) (fun c609 => ?_) (fun c609 => ?_)
      · have hwp := hwp.1 c609
        refine lv_iconst (v := 1) hx hb dL_load_693 (by decide) ?_
        have hP9 : va_P D vwCl ([] ++ wK C ad d) H := bd_P (lc := []) hP [] rfl
        have hD9 : va_D A ([] ++ wK C ad d) := bd_D (lc := []) hD [] rfl (by decide)
        exact W.zret (v := (1 : Int32)) (ty := .boolean) hx hb hr rfl (fun t ht hW => ⟨⟨(1 : Int32), (d), rfl, hwp, by rw [ht]; exact hP9, va_K.moved hW.alike hK, hD9⟩, hS.F ht⟩) hS.2.2 dL_load_694
      · have hwp := hwp.2 c609
        refine lv_iconst (v := 0) hx hb dL_load_612 (by decide) ?_
        refine lv_istore (lv' := [(12, .int (0 : Int32)), (0, .ref (ad 0)), (1, .ref q1), (2, .int x2), (3, .int x3), (5, .ref a169), (6, .ref a175), (11, .int x11)]) hx hb dL_load_613 hl (by decide) rfl (fun ls hl => ?_)
        obtain ⟨hbk, hwp⟩ := hwp
        refine W.widen (k := 3000) (n := 6000) hbk.1 hbk.2 ?_
        have hl9 := lv_sub (l' := [(0, .ref (ad 0)), (1, .ref q1), (2, .int x2), (3, .int x3), (5, .ref a169), (6, .ref a175), (11, .int x11), (12, .int (0 : Int32))]) hl [1, 2, 3, 4, 5, 6, 7, 0] rfl
        have hP9 : va_P D vwCl ([(a169, .inl (C 0, 8, .inl ta169)), (a175, .inl (C 0, 8, .inl ta175))] ++ wK C ad d) H := bd_P (lc := [(a169, .inl (C 0, 8, .inl ta169)), (a175, .inl (C 0, 8, .inl ta175))]) hP [0, 1] rfl
        have hD9 : va_D A ([(a169, .inl (C 0, 8, .inl ta169)), (a175, .inl (C 0, 8, .inl ta175))] ++ wK C ad d) := bd_D (lc := [(a169, .inl (C 0, 8, .inl ta169)), (a175, .inl (C 0, 8, .inl ta175))]) hD [0, 1] rfl (by decide)
        obtain ⟨nn9, hwp⟩ := hwp
        refine HL615 a169 a175 x2 x3 x11 ta169 ta175 _ (fun d H locs ls hl hP hD hS hwp => ?_) nn9 (0 : Int32) d H locs ls hl9 hP9 hD9 hS hwp
        refine lv_aload_n hx hb dL_load_655 rfl (lv_at hl 0 rfl) ?_
        refine lv_iload hx hb dL_load_656 (lv_at hl 6 rfl) ?_
        refine lv_iconst (v := 3) hx hb dL_load_658 (by decide) ?_
        have hPc : va_P D vwCl ([] ++ wK C ad d) H := bd_P (lc := []) hP [] rfl
        have hDc : va_D A ([] ++ wK C ad d) := bd_D (lc := []) hD [] rfl (by decide)
        have hFc : ∀ q, va_A ([] ++ wK C ad d) H.size q → A q := bd_free (lc := []) hD hS hA [] rfl
        obtain ⟨hbk, hwp⟩ := hwp
        refine va_calli (va_runV (As := [.int x11, .int (3 : Int32)]) (rest := []) ⟨hx, hb, hml, hown, hts⟩ (mk_X10_item l hst D C ad x11 (3 : Int32) d H.size _ hwp) (cwV 2 hts gc_L_98 rfl rfl rfl (by decide +kernel) ⟨Nat.le_of_ble_eq_true rfl, Nat.le_of_ble_eq_true rfl⟩) ⟨fun a U g mk q => by obtain ⟨q0, q1, qP, qK, qD, qT⟩ := q; exact ⟨q0, q1, qP, va_K.moved (u := U) (U := U.calling g mk a) (Vm.Alike.refl U.vm) qK, qD, qT.mv (U := U.calling g mk a) (State.WarmedH.refl U)⟩, va_recv hK hPc (ci := 10) (q0 := 0) rfl rfl, fun U hU hW => ⟨rfl, by rw [hU], by rw [hU]; exact hPc, va_K.moved hW.alike hK, hDc.weaken (fun _ _ _ _ => trivial), hT.call hS hFc hU hW⟩⟩ rfl rfl hl.1 rfl (lv_room (Nat.le_of_ble_eq_true rfl)) dL_load_659 ⟨hbk.1, hbk.2⟩) hS (fun q _ h => hFc q h) hFc (fun r659 u t H1 locs ht hvm hwp hB hz1 hk1 hS => ?_)
        obtain ⟨u659_105, rfl⟩ : ∃ z, z = u := ⟨_, rfl⟩
        obtain ⟨hP1, -, hD1⟩ := hB
        rw [ht] at hP1
        obtain ⟨hP, hD⟩ := bd_join (lr := [(a169, .inl (C 0, 8, .inl ta169)), (a175, .inl (C 0, 8, .inl ta175))]) (l1 := []) (b1 := wK C ad u659_105) hP hD [] [0, 1] rfl rfl (by decide) (by decide) hk1 hFc hP1 hD1
        generalize H1 = H at hP hS ⊢
        have hP : va_P D vwCl ([(a169, .inl (C 0, 8, .inl ta169)), (a175, .inl (C 0, 8, .inl ta175))] ++ wK C ad u659_105) H := hP
        have hD : va_D A ([(a169, .inl (C 0, 8, .inl ta169)), (a175, .inl (C 0, 8, .inl ta175))] ++ wK C ad u659_105) := hD
        refine lv_aload hx hb dL_load_662 (lv_at hl 4 rfl) ?_
        refine lv_iload hx hb dL_load_664 (lv_at hl 6 rfl) ?_
        obtain ⟨hi666, hwp⟩ := hwp
        refine va_iald (D := D) hx hb hK hP 0 0 rfl rfl hi666 dL_load_666 ?_
        refine lv_icmp_ne (tgt := 685) hx hb dL_load_667 (by decide) (fun c667 => ?_) (fun c667 => ?_)
        · have hwp := hwp.1 c667
          refine lv_iconst (v := 0) hx hb dL_load_685 (by decide) ?_
          have hP9 : va_P D vwCl ([] ++ wK C ad u659_105) H := bd_P (lc := []) hP [] rfl
          have hD9 : va_D A ([] ++ wK C ad u659_105) := bd_D (lc := []) hD [] rfl (by decide)
          exact W.zret (v := (0 : Int32)) (ty := .boolean) hx hb hr rfl (fun t ht hW => ⟨⟨(0 : Int32), (u659_105), rfl, hwp, by rw [ht]; exact hP9, va_K.moved hW.alike hK, hD9⟩, hS.F ht⟩) hS.2.2 dL_load_686
        · have hwp := hwp.2 c667
          refine lv_aload_n hx hb dL_load_670 rfl (lv_at hl 0 rfl) ?_
          refine lv_iload hx hb dL_load_671 (lv_at hl 6 rfl) ?_
          refine lv_iconst (v := 4) hx hb dL_load_673 (by decide) ?_
          have hPc : va_P D vwCl ([] ++ wK C ad u659_105) H := bd_P (lc := []) hP [] rfl
          have hDc : va_D A ([] ++ wK C ad u659_105) := bd_D (lc := []) hD [] rfl (by decide)
          have hFc : ∀ q, va_A ([] ++ wK C ad u659_105) H.size q → A q := bd_free (lc := []) hD hS hA [] rfl
          obtain ⟨hbk, hwp⟩ := hwp
          refine va_calli (va_runV (As := [.int x11, .int (4 : Int32)]) (rest := []) ⟨hx, hb, hml, hown, hts⟩ (mk_X10_item l hst D C ad x11 (4 : Int32) u659_105 H.size _ hwp) (cwV 2 hts gc_L_98 rfl rfl rfl (by decide +kernel) ⟨Nat.le_of_ble_eq_true rfl, Nat.le_of_ble_eq_true rfl⟩) ⟨fun a U g mk q => by obtain ⟨q0, q1, qP, qK, qD, qT⟩ := q; exact ⟨q0, q1, qP, va_K.moved (u := U) (U := U.calling g mk a) (Vm.Alike.refl U.vm) qK, qD, qT.mv (U := U.calling g mk a) (State.WarmedH.refl U)⟩, va_recv hK hPc (ci := 10) (q0 := 0) rfl rfl, fun U hU hW => ⟨rfl, by rw [hU], by rw [hU]; exact hPc, va_K.moved hW.alike hK, hDc.weaken (fun _ _ _ _ => trivial), hT.call hS hFc hU hW⟩⟩ rfl rfl hl.1 rfl (lv_room (Nat.le_of_ble_eq_true rfl)) dL_load_674 ⟨hbk.1, hbk.2⟩) hS (fun q _ h => hFc q h) hFc (fun r674 u t H1 locs ht hvm hwp hB hz1 hk1 hS => ?_)
          obtain ⟨u674_106, rfl⟩ : ∃ z, z = u := ⟨_, rfl⟩
          obtain ⟨hP1, -, hD1⟩ := hB
          rw [ht] at hP1
          obtain ⟨hP, hD⟩ := bd_join (lr := [(a169, .inl (C 0, 8, .inl ta169)), (a175, .inl (C 0, 8, .inl ta175))]) (l1 := []) (b1 := wK C ad u674_106) hP hD [] [0, 1] rfl rfl (by decide) (by decide) hk1 hFc hP1 hD1
          generalize H1 = H at hP hS ⊢
          have hP : va_P D vwCl ([(a169, .inl (C 0, 8, .inl ta169)), (a175, .inl (C 0, 8, .inl ta175))] ++ wK C ad u674_106) H := hP
          have hD : va_D A ([(a169, .inl (C 0, 8, .inl ta169)), (a175, .inl (C 0, 8, .inl ta175))] ++ wK C ad u674_106) := hD
          refine lv_aload hx hb dL_load_677 (lv_at hl 5 rfl) ?_
          refine lv_iload hx hb dL_load_679 (lv_at hl 6 rfl) ?_
          obtain ⟨hi681, hwp⟩ := hwp
          refine va_iald (D := D) hx hb hK hP 1 0 rfl rfl hi681 dL_load_681 ?_
          refine lv_icmp_eq (tgt := 687) hx hb dL_load_682 (by decide) (fun c682 => ?_) (fun c682 => ?_)
          · have hwp := hwp.1 c682
            refine lv_iinc (v := x11 + 1) (lv' := [(11, .int (x11 + 1)), (0, .ref (ad 0)), (1, .ref q1), (2, .int x2), (3, .int x3), (5, .ref a169), (6, .ref a175)]) hx hb dL_load_687 hl (k := 6) rfl rfl (by decide) rfl (fun ls hl => ?_)
            refine lv_goto (tgt := 606) hx hb dL_load_690 (by decide) ?_
            obtain ⟨hbk, hwp⟩ := hwp
            refine W.widen (k := 3000) (n := 6000) hbk.1 hbk.2 ?_
            have hl9 := lv_sub (l' := [(0, .ref (ad 0)), (1, .ref q1), (2, .int x2), (3, .int x3), (5, .ref a169), (6, .ref a175), (11, .int (x11 + 1))]) hl [1, 2, 3, 4, 5, 6, 0] rfl
            have hP9 : va_P D vwCl ([(a169, .inl (C 0, 8, .inl ta169)), (a175, .inl (C 0, 8, .inl ta175))] ++ wK C ad u674_106) H := bd_P (lc := [(a169, .inl (C 0, 8, .inl ta169)), (a175, .inl (C 0, 8, .inl ta175))]) hP [0, 1] rfl
            have hD9 : va_D A ([(a169, .inl (C 0, 8, .inl ta169)), (a175, .inl (C 0, 8, .inl ta175))] ++ wK C ad u674_106) := bd_D (lc := [(a169, .inl (C 0, 8, .inl ta169)), (a175, .inl (C 0, 8, .inl ta175))]) hD [0, 1] rfl (by decide)
            exact ih (x11 + 1) u674_106 H locs ls hl9 hP9 hD9 hS hwp
          · have hwp := hwp.2 c682
            refine lv_iconst (v := 0) hx hb dL_load_685 (by decide) ?_
            have hP9 : va_P D vwCl ([] ++ wK C ad u674_106) H := bd_P (lc := []) hP [] rfl
            have hD9 : va_D A ([] ++ wK C ad u674_106) := bd_D (lc := []) hD [] rfl (by decide)
            exact W.zret (v := (0 : Int32)) (ty := .boolean) hx hb hr rfl (fun t ht hW => ⟨⟨(0 : Int32), (u674_106), rfl, hwp, by rw [ht]; exact hP9, va_K.moved hW.alike hK, hD9⟩, hS.F ht⟩) hS.2.2 dL_load_686
  have HB576 : ∀ (a169 : Nat) (a175 : Nat) (x2 : Int32) (x3 : Int32) (x10 : Int32) (z576_0 : Int32) (z576_1 : Int32) (d : DT) (ta169 : Nat → Int32) (ta175 : Nat → Int32) (H : Heap) (locs : List Loc) (ls : Array Slot), lv_has ls 13 [(0, .ref (ad 0)), (1, .ref q1), (2, .int x2), (3, .int x3), (5, .ref a169), (6, .ref a175), (10, .int x10)] → va_P D vwCl ([(a169, .inl (C 0, 8, .inl ta169)), (a175, .inl (C 0, 8, .inl ta175))] ++ wK C ad d) H → va_D A ([(a169, .inl (C 0, 8, .inl ta169)), (a175, .inl (C 0, 8, .inl ta175))] ++ wK C ad d) → va_S A s.heap H locs → wp_L_load_b576 sn1 sx1 Q x2 x3 x10 z576_0 z576_1 d ta169 ta175 → W p l e (headSpec ws_L_load rm_L_load).room s m ([.ref (ad 0), .ref q1] : List Value).toArray below meth c H locs 3000 6000 (MQ below (q_L_load D C ad q1 sn1 sx1 Q A) ([.ref (ad 0), .ref q1] : List Value).toArray s 3000 6000 A) (F0 m 576 ls [.int z576_1, .int z576_0]) := by
    intro a169 a175 x2 x3 x10 z576_0 z576_1 d ta169 ta175 H locs ls hl hP hD hS hwp
    unfold wp_L_load_b576 at hwp
    refine lv_icmp_ne (tgt := 601) hx hb dL_load_576 (by decide) (fun c576 => ?_) (fun c576 => ?_)
    · have hwp := hwp.1 c576
      refine lv_iconst (v := 0) hx hb dL_load_601 (by decide) ?_
      have hP9 : va_P D vwCl ([] ++ wK C ad d) H := bd_P (lc := []) hP [] rfl
      have hD9 : va_D A ([] ++ wK C ad d) := bd_D (lc := []) hD [] rfl (by decide)
      exact W.zret (v := (0 : Int32)) (ty := .boolean) hx hb hr rfl (fun t ht hW => ⟨⟨(0 : Int32), (d), rfl, hwp, by rw [ht]; exact hP9, va_K.moved hW.alike hK, hD9⟩, hS.F ht⟩) hS.2.2 dL_load_602
    · have hwp := hwp.2 c576
      refine lv_aload_n hx hb dL_load_579 rfl (lv_at hl 0 rfl) ?_
      refine lv_bipush (v := 6) hx hb dL_load_580 (by decide) ?_
      have hPc : va_P D vwCl ([] ++ wK C ad d) H := bd_P (lc := []) hP [] rfl
      have hDc : va_D A ([] ++ wK C ad d) := bd_D (lc := []) hD [] rfl (by decide)
      have hFc : ∀ q, va_A ([] ++ wK C ad d) H.size q → A q := bd_free (lc := []) hD hS hA [] rfl
      obtain ⟨hbk, hwp⟩ := hwp
      refine va_calli (va_runV (As := [.int (6 : Int32)]) (rest := []) ⟨hx, hb, hml, hown, hts⟩ (mk_X10_property l hst D C ad (6 : Int32) d H.size _ hwp) (cwV 1 hts gc_L_94 rfl rfl rfl (by decide +kernel) ⟨Nat.le_of_ble_eq_true rfl, Nat.le_of_ble_eq_true rfl⟩) ⟨fun a U g mk q => by obtain ⟨q0, q1, qP, qK, qD, qT⟩ := q; exact ⟨q0, q1, qP, va_K.moved (u := U) (U := U.calling g mk a) (Vm.Alike.refl U.vm) qK, qD, qT.mv (U := U.calling g mk a) (State.WarmedH.refl U)⟩, va_recv hK hPc (ci := 10) (q0 := 0) rfl rfl, fun U hU hW => ⟨rfl, by rw [hU], by rw [hU]; exact hPc, va_K.moved hW.alike hK, hDc.weaken (fun _ _ _ _ => trivial), hT.call hS hFc hU hW⟩⟩ rfl rfl hl.1 rfl (lv_room (Nat.le_of_ble_eq_true rfl)) dL_load_582 ⟨hbk.1, hbk.2⟩) hS (fun q _ h => hFc q h) hFc (fun r582 u t H1 locs ht hvm hwp hB hz1 hk1 hS => ?_)
      obtain ⟨u582_103, rfl⟩ : ∃ z, z = u := ⟨_, rfl⟩
      obtain ⟨hP1, -, hD1⟩ := hB
      rw [ht] at hP1
      obtain ⟨hP, hD⟩ := bd_join (lr := [(a169, .inl (C 0, 8, .inl ta169)), (a175, .inl (C 0, 8, .inl ta175))]) (l1 := []) (b1 := wK C ad u582_103) hP hD [] [0, 1] rfl rfl (by decide) (by decide) hk1 hFc hP1 hD1
      generalize H1 = H at hP hS ⊢
      have hP : va_P D vwCl ([(a169, .inl (C 0, 8, .inl ta169)), (a175, .inl (C 0, 8, .inl ta175))] ++ wK C ad u582_103) H := hP
      have hD : va_D A ([(a169, .inl (C 0, 8, .inl ta169)), (a175, .inl (C 0, 8, .inl ta175))] ++ wK C ad u582_103) := hD
      refine lv_iload hx hb dL_load_585 (lv_at hl 6 rfl) ?_
      refine lv_if_ge (tgt := 594) hx hb dL_load_587 (by decide) (fun c587 => ?_) (fun c587 => ?_)
      · have hwp := hwp.1 c587
        refine lv_iconst (v := 1) hx hb dL_load_594 (by decide) ?_
        refine lv_iload hx hb dL_load_595 (lv_at hl 6 rfl) ?_
        refine lv_ishl hx hb dL_load_597 ?_
        refine lv_icmp_eq (tgt := 603) hx hb dL_load_598 (by decide) (fun c598 => ?_) (fun c598 => ?_)
        · have hwp := hwp.1 c598
          refine lv_iconst (v := 0) hx hb dL_load_603 (by decide) ?_
          refine lv_istore (lv' := [(11, .int (0 : Int32)), (0, .ref (ad 0)), (1, .ref q1), (2, .int x2), (3, .int x3), (5, .ref a169), (6, .ref a175), (10, .int x10)]) hx hb dL_load_604 hl (by decide) rfl (fun ls hl => ?_)
          obtain ⟨hbk, hwp⟩ := hwp
          refine W.widen (k := 3000) (n := 6000) hbk.1 hbk.2 ?_
          have hl9 := lv_sub (l' := [(0, .ref (ad 0)), (1, .ref q1), (2, .int x2), (3, .int x3), (5, .ref a169), (6, .ref a175), (11, .int (0 : Int32))]) hl [1, 2, 3, 4, 5, 6, 0] rfl
          have hP9 : va_P D vwCl ([(a169, .inl (C 0, 8, .inl ta169)), (a175, .inl (C 0, 8, .inl ta175))] ++ wK C ad u582_103) H := bd_P (lc := [(a169, .inl (C 0, 8, .inl ta169)), (a175, .inl (C 0, 8, .inl ta175))]) hP [0, 1] rfl
          have hD9 : va_D A ([(a169, .inl (C 0, 8, .inl ta169)), (a175, .inl (C 0, 8, .inl ta175))] ++ wK C ad u582_103) := bd_D (lc := [(a169, .inl (C 0, 8, .inl ta169)), (a175, .inl (C 0, 8, .inl ta175))]) hD [0, 1] rfl (by decide)
          obtain ⟨nn9, hwp⟩ := hwp
          refine HL606 a169 a175 x2 x3 ta169 ta175 nn9 (0 : Int32) u582_103 H locs ls hl9 hP9 hD9 hS hwp
        · have hwp := hwp.2 c598
          refine lv_iconst (v := 0) hx hb dL_load_601 (by decide) ?_
          have hP9 : va_P D vwCl ([] ++ wK C ad u582_103) H := bd_P (lc := []) hP [] rfl
          have hD9 : va_D A ([] ++ wK C ad u582_103) := bd_D (lc := []) hD [] rfl (by decide)
          exact W.zret (v := (0 : Int32)) (ty := .boolean) hx hb hr rfl (fun t ht hW => ⟨⟨(0 : Int32), (u582_103), rfl, hwp, by rw [ht]; exact hP9, va_K.moved hW.alike hK, hD9⟩, hS.F ht⟩) hS.2.2 dL_load_602
      · have hwp := hwp.2 c587
        refine lv_iconst (v := 0) hx hb dL_load_590 (by decide) ?_
        refine lv_goto (tgt := 598) hx hb dL_load_591 (by decide) ?_
        refine lv_icmp_eq (tgt := 603) hx hb dL_load_598 (by decide) (fun c598 => ?_) (fun c598 => ?_)
        · have hwp := hwp.1 c598
          refine lv_iconst (v := 0) hx hb dL_load_603 (by decide) ?_
          refine lv_istore (lv' := [(11, .int (0 : Int32)), (0, .ref (ad 0)), (1, .ref q1), (2, .int x2), (3, .int x3), (5, .ref a169), (6, .ref a175), (10, .int x10)]) hx hb dL_load_604 hl (by decide) rfl (fun ls hl => ?_)
          obtain ⟨hbk, hwp⟩ := hwp
          refine W.widen (k := 3000) (n := 6000) hbk.1 hbk.2 ?_
          have hl9 := lv_sub (l' := [(0, .ref (ad 0)), (1, .ref q1), (2, .int x2), (3, .int x3), (5, .ref a169), (6, .ref a175), (11, .int (0 : Int32))]) hl [1, 2, 3, 4, 5, 6, 0] rfl
          have hP9 : va_P D vwCl ([(a169, .inl (C 0, 8, .inl ta169)), (a175, .inl (C 0, 8, .inl ta175))] ++ wK C ad u582_103) H := bd_P (lc := [(a169, .inl (C 0, 8, .inl ta169)), (a175, .inl (C 0, 8, .inl ta175))]) hP [0, 1] rfl
          have hD9 : va_D A ([(a169, .inl (C 0, 8, .inl ta169)), (a175, .inl (C 0, 8, .inl ta175))] ++ wK C ad u582_103) := bd_D (lc := [(a169, .inl (C 0, 8, .inl ta169)), (a175, .inl (C 0, 8, .inl ta175))]) hD [0, 1] rfl (by decide)
          obtain ⟨nn9, hwp⟩ := hwp
          refine HL606 a169 a175 x2 x3 ta169 ta175 nn9 (0 : Int32) u582_103 H locs ls hl9 hP9 hD9 hS hwp
        · have hwp := hwp.2 c598
          refine lv_iconst (v := 0) hx hb dL_load_601 (by decide) ?_
          have hP9 : va_P D vwCl ([] ++ wK C ad u582_103) H := bd_P (lc := []) hP [] rfl
          have hD9 : va_D A ([] ++ wK C ad u582_103) := bd_D (lc := []) hD [] rfl (by decide)
          exact W.zret (v := (0 : Int32)) (ty := .boolean) hx hb hr rfl (fun t ht hW => ⟨⟨(0 : Int32), (u582_103), rfl, hwp, by rw [ht]; exact hP9, va_K.moved hW.alike hK, hD9⟩, hS.F ht⟩) hS.2.2 dL_load_602
  have HB486 : ∀ (a25 : Nat) (a169 : Nat) (a175 : Nat) (x2 : Int32) (x3 : Int32) (x7 : Int32) (x8 : Int32) (x9 : Int32) (x10 : Int32) (d : DT) (tpa25 : Nat) (tna25 : Nat) (tfa25 : Nat → Int32) (tca25 : Int32) (tla25 : Int32) (ta169 : Nat → Int32) (ta175 : Nat → Int32) (H : Heap) (locs : List Loc) (ls : Array Slot), lv_has ls 13 [(0, .ref (ad 0)), (1, .ref q1), (2, .int x2), (3, .int x3), (4, .ref a25), (5, .ref a169), (6, .ref a175), (7, .int x7), (8, .int x8), (9, .int x9), (10, .int x10)] → va_P D vwCl ([(a25, .inr (12, [.ref tpa25, .int 0, .int tla25, .int tca25])), (tpa25, .inl (C 1, tna25, .inl tfa25)), (a169, .inl (C 0, 8, .inl ta169)), (a175, .inl (C 0, 8, .inl ta175))] ++ wK C ad d) H → va_D A ([(a25, .inr (12, [.ref tpa25, .int 0, .int tla25, .int tca25])), (tpa25, .inl (C 1, tna25, .inl tfa25)), (a169, .inl (C 0, 8, .inl ta169)), (a175, .inl (C 0, 8, .inl ta175))] ++ wK C ad d) → va_S A s.heap H locs → wp_L_load_b486 sn1 sx1 Q x2 x3 x7 x8 x9 x10 d tpa25 tna25 tfa25 tca25 tla25 ta169 ta175 → W p l e (headSpec ws_L_load rm_L_load).room s m ([.ref (ad 0), .ref q1] : List Value).toArray below meth c H locs (12 + tna25) (140 + 2 * tna25) (MQ below (q_L_load D C ad q1 sn1 sx1 Q A) ([.ref (ad 0), .ref q1] : List Value).toArray s 3000 6000 A) (F0 m 486 ls []) := by
    intro a25 a169 a175 x2 x3 x7 x8 x9 x10 d tpa25 tna25 tfa25 tca25 tla25 ta169 ta175 H locs ls hl hP hD hS hwp
    unfold wp_L_load_b486 at hwp
    refine lv_aload_n hx hb dL_load_486 rfl (lv_at hl 0 rfl) ?_
    refine lv_aload hx hb dL_load_487 (lv_at hl 4 rfl) ?_
    have hPc := hP.sub (ws' := [(a25, .inr (12, [.ref tpa25, .int 0, .int tla25, .int tca25])), (tpa25, .inl (C 1, tna25, .inl tfa25))]) [0, 1] rfl
    have hDc := hD.sub (ws' := [(a25, .inr (12, [.ref tpa25, .int 0, .int tla25, .int tca25])), (tpa25, .inl (C 1, tna25, .inl tfa25))]) [0, 1] (by decide) rfl
    have hFc := va_free (wc := [(a25, .inr (12, [.ref tpa25, .int 0, .int tla25, .int tca25])), (tpa25, .inl (C 1, tna25, .inl tfa25))]) hD hS hA [0, 1] rfl
    obtain ⟨mb489, sb489, hbk, hwp⟩ := hwp
    refine va_callr (va_runV (As := []) (rest := [.ref (ad 0)]) ⟨hx, hb, hml, hown, hts⟩ (met_J4_toString_0e30d l hst D C a25 tpa25 tna25 tfa25 tca25 tla25 mb489 sb489 H.size _ hwp) (cwV 0 hts gc_L_77 rfl rfl rfl (by decide +kernel) ⟨Nat.le_of_ble_eq_true rfl, Nat.le_of_ble_eq_true rfl⟩) ⟨fun a U g mk q => by obtain ⟨q0, q1, qP, qK, qD, qT⟩ := q; exact ⟨q0, q1, qP, va_K.moved (u := U) (U := U.calling g mk a) (Vm.Alike.refl U.vm) qK, qD, qT.mv (U := U.calling g mk a) (State.WarmedH.refl U)⟩, va_recv hK hPc (ci := 12) (q0 := 0) rfl rfl, fun U hU hW => ⟨rfl, by rw [hU], by rw [hU]; exact hPc, va_K.moved hW.alike hK, hDc.weaken (fun _ _ _ _ => trivial), hT.call hS hFc hU hW⟩⟩ rfl rfl hl.1 rfl (lv_room (Nat.le_of_ble_eq_true rfl)) dL_load_489 ⟨hbk.1, hbk.2⟩) hS (fun q _ h => hFc q h) hFc (fun u ra t H1 locs ht hvm hwp hB hz1 hk1 hS => ?_)
    obtain ⟨u489_90, u489_91, u489_92, u489_93⟩ := u
    obtain ⟨hra, hP1, -, hD1⟩ := hB
    have hra := hra.symm
    subst hra
    rw [ht] at hP1
    obtain ⟨hP, hD⟩ := bd_joinL (lr := [(a169, .inl (C 0, 8, .inl ta169)), (a175, .inl (C 0, 8, .inl ta175))]) (l1 := [(a25, .inr (12, [.ref tpa25, .int 0, .int tla25, .int tca25])), (tpa25, .inl (C 1, tna25, .inl tfa25)), (u489_90, .inr (11, [.ref u489_91, .int 0, .int 0, .int 0])), (u489_91, .inl (C 1, u489_92, .inl u489_93))]) hP hD [0, 1] [2, 3] rfl rfl (by decide) (by decide) hk1 hFc hP1 hD1
    generalize H1 = H at hP hS ⊢
    have hP : va_P D vwCl ([(a169, .inl (C 0, 8, .inl ta169)), (a175, .inl (C 0, 8, .inl ta175)), (a25, .inr (12, [.ref tpa25, .int 0, .int tla25, .int tca25])), (tpa25, .inl (C 1, tna25, .inl tfa25)), (u489_90, .inr (11, [.ref u489_91, .int 0, .int 0, .int 0])), (u489_91, .inl (C 1, u489_92, .inl u489_93))] ++ wK C ad d) H := hP
    have hD : va_D A ([(a169, .inl (C 0, 8, .inl ta169)), (a175, .inl (C 0, 8, .inl ta175)), (a25, .inr (12, [.ref tpa25, .int 0, .int tla25, .int tca25])), (tpa25, .inl (C 1, tna25, .inl tfa25)), (u489_90, .inr (11, [.ref u489_91, .int 0, .int 0, .int 0])), (u489_91, .inl (C 1, u489_92, .inl u489_93))] ++ wK C ad d) := hD
    have hPc : va_P D vwCl ([] ++ wK C ad d) H := bd_P (lc := []) hP [] rfl
    have hDc : va_D A ([] ++ wK C ad d) := bd_D (lc := []) hD [] rfl (by decide)
    have hFc : ∀ q, va_A ([] ++ wK C ad d) H.size q → A q := bd_free (lc := []) hD hS hA [] rfl
    obtain ⟨hbk, hwp⟩ := hwp
    refine va_callv (va_runS (As := [.ref (ad 0), .ref u489_90]) (rest := []) ⟨hx, hb, hml, hown, hts⟩ (met_L_feed l hst D C ad u489_90 ((List.range u489_92).map u489_93) d H.size _ hwp) (va_cwS 2 hts gc_L_81 rfl rfl rfl (by decide +kernel) ⟨Nat.le_of_ble_eq_true rfl, Nat.le_of_ble_eq_true rfl⟩) ⟨fun a U g mk q => by obtain ⟨q0, q1, qP, qK, qD, qT, qS_q1⟩ := q; exact ⟨q0, q1, qP, va_K.moved (u := U) (U := U.calling g mk a) (Vm.Alike.refl U.vm) qK, qD, qT.mv (U := U.calling g mk a) (State.WarmedH.refl U), qS_q1.moved (U := U.calling g mk a) (Vm.Alike.refl U.vm)⟩, fun U hU hW => ⟨rfl, by rw [hU], by rw [hU]; exact hPc, va_K.moved hW.alike hK, hDc.weaken (fun _ _ _ _ => trivial), hT.call hS hFc hU hW, bd_Str hts hK hP 4 5 rfl rfl (bd_no (lc := []) hP hD [] rfl 4 rfl (by decide)) (bd_no (lc := []) hP hD [] rfl 5 rfl (by decide)) hU hW⟩⟩ rfl rfl hl.1 rfl (lv_room (Nat.le_of_ble_eq_true rfl)) dL_load_492 ⟨hbk.1, hbk.2⟩) hS (fun q _ h => hFc q h) hFc (fun u t H1 locs ht hvm hwp hB hz1 hk1 hS => ?_)
    obtain ⟨u492_94, rfl⟩ : ∃ z, z = u := ⟨_, rfl⟩
    obtain ⟨hP1, -, hD1⟩ := hB
    rw [ht] at hP1
    obtain ⟨hP, hD⟩ := bd_join (lr := [(a169, .inl (C 0, 8, .inl ta169)), (a175, .inl (C 0, 8, .inl ta175)), (a25, .inr (12, [.ref tpa25, .int 0, .int tla25, .int tca25])), (tpa25, .inl (C 1, tna25, .inl tfa25)), (u489_90, .inr (11, [.ref u489_91, .int 0, .int 0, .int 0])), (u489_91, .inl (C 1, u489_92, .inl u489_93))]) (l1 := []) (b1 := wK C ad u492_94) hP hD [] [0, 1, 2, 3, 4, 5] rfl rfl (by decide) (by decide) hk1 hFc hP1 hD1
    generalize H1 = H at hP hS ⊢
    have hP : va_P D vwCl ([(a169, .inl (C 0, 8, .inl ta169)), (a175, .inl (C 0, 8, .inl ta175)), (a25, .inr (12, [.ref tpa25, .int 0, .int tla25, .int tca25])), (tpa25, .inl (C 1, tna25, .inl tfa25)), (u489_90, .inr (11, [.ref u489_91, .int 0, .int 0, .int 0])), (u489_91, .inl (C 1, u489_92, .inl u489_93))] ++ wK C ad u492_94) H := hP
    have hD : va_D A ([(a169, .inl (C 0, 8, .inl ta169)), (a175, .inl (C 0, 8, .inl ta175)), (a25, .inr (12, [.ref tpa25, .int 0, .int tla25, .int tca25])), (tpa25, .inl (C 1, tna25, .inl tfa25)), (u489_90, .inr (11, [.ref u489_91, .int 0, .int 0, .int 0])), (u489_91, .inl (C 1, u489_92, .inl u489_93))] ++ wK C ad u492_94) := hD
    refine lv_aload_n hx hb dL_load_495 rfl (lv_at hl 0 rfl) ?_
    have hPc : va_P D vwCl ([] ++ wK C ad u492_94) H := bd_P (lc := []) hP [] rfl
    have hDc : va_D A ([] ++ wK C ad u492_94) := bd_D (lc := []) hD [] rfl (by decide)
    have hFc : ∀ q, va_A ([] ++ wK C ad u492_94) H.size q → A q := bd_free (lc := []) hD hS hA [] rfl
    obtain ⟨hbk, hwp⟩ := hwp
    refine va_calli (va_runV (As := []) (rest := []) ⟨hx, hb, hml, hown, hts⟩ (mk_X10_load l hst D C ad u492_94 H.size _ hwp) (cwV 0 hts gc_L_85 rfl rfl rfl (by decide +kernel) ⟨Nat.le_of_ble_eq_true rfl, Nat.le_of_ble_eq_true rfl⟩) ⟨fun a U g mk q => by obtain ⟨q0, q1, qP, qK, qD, qT⟩ := q; exact ⟨q0, q1, qP, va_K.moved (u := U) (U := U.calling g mk a) (Vm.Alike.refl U.vm) qK, qD, qT.mv (U := U.calling g mk a) (State.WarmedH.refl U)⟩, va_recv hK hPc (ci := 10) (q0 := 0) rfl rfl, fun U hU hW => ⟨rfl, by rw [hU], by rw [hU]; exact hPc, va_K.moved hW.alike hK, hDc.weaken (fun _ _ _ _ => trivial), hT.call hS hFc hU hW⟩⟩ rfl rfl hl.1 rfl (lv_room (Nat.le_of_ble_eq_true rfl)) dL_load_496 ⟨hbk.1, hbk.2⟩) hS (fun q _ h => hFc q h) hFc (fun r496 u t H1 locs ht hvm hwp hB hz1 hk1 hS => ?_)
    obtain ⟨u496_95, rfl⟩ : ∃ z, z = u := ⟨_, rfl⟩
    obtain ⟨hP1, -, hD1⟩ := hB
    rw [ht] at hP1
    obtain ⟨hP, hD⟩ := bd_join (lr := [(a169, .inl (C 0, 8, .inl ta169)), (a175, .inl (C 0, 8, .inl ta175)), (a25, .inr (12, [.ref tpa25, .int 0, .int tla25, .int tca25])), (tpa25, .inl (C 1, tna25, .inl tfa25)), (u489_90, .inr (11, [.ref u489_91, .int 0, .int 0, .int 0])), (u489_91, .inl (C 1, u489_92, .inl u489_93))]) (l1 := []) (b1 := wK C ad u496_95) hP hD [] [0, 1, 2, 3, 4, 5] rfl rfl (by decide) (by decide) hk1 hFc hP1 hD1
    generalize H1 = H at hP hS ⊢
    have hP : va_P D vwCl ([(a169, .inl (C 0, 8, .inl ta169)), (a175, .inl (C 0, 8, .inl ta175)), (a25, .inr (12, [.ref tpa25, .int 0, .int tla25, .int tca25])), (tpa25, .inl (C 1, tna25, .inl tfa25)), (u489_90, .inr (11, [.ref u489_91, .int 0, .int 0, .int 0])), (u489_91, .inl (C 1, u489_92, .inl u489_93))] ++ wK C ad u496_95) H := hP
    have hD : va_D A ([(a169, .inl (C 0, 8, .inl ta169)), (a175, .inl (C 0, 8, .inl ta175)), (a25, .inr (12, [.ref tpa25, .int 0, .int tla25, .int tca25])), (tpa25, .inl (C 1, tna25, .inl tfa25)), (u489_90, .inr (11, [.ref u489_91, .int 0, .int 0, .int 0])), (u489_91, .inl (C 1, u489_92, .inl u489_93))] ++ wK C ad u496_95) := hD
    refine lv_iload_n hx hb dL_load_499 rfl (lv_at hl 2 rfl) ?_
    refine lv_icmp_ne (tgt := 556) hx hb dL_load_500 (by decide) (fun c500 => ?_) (fun c500 => ?_)
    · have hwp := hwp.1 c500
      refine lv_iconst (v := 0) hx hb dL_load_556 (by decide) ?_
      obtain ⟨hbk, hwp⟩ := hwp
      have hP9 : va_P D vwCl ([] ++ wK C ad u496_95) H := bd_P (lc := []) hP [] rfl
      have hD9 : va_D A ([] ++ wK C ad u496_95) := bd_D (lc := []) hD [] rfl (by decide)
      refine W.widen (k := 3000) (n := 6000) hbk.1 hbk.2 ?_
      exact W.zret (v := (0 : Int32)) (ty := .boolean) hx hb hr rfl (fun t ht hW => ⟨⟨(0 : Int32), (u496_95), rfl, hwp, by rw [ht]; exact hP9, va_K.moved hW.alike hK, hD9⟩, hS.F ht⟩) hS.2.2 dL_load_557
    · have hwp := hwp.2 c500
      refine lv_aload_n hx hb dL_load_503 rfl (lv_at hl 0 rfl) ?_
      have hPc : va_P D vwCl ([] ++ wK C ad u496_95) H := bd_P (lc := []) hP [] rfl
      have hDc : va_D A ([] ++ wK C ad u496_95) := bd_D (lc := []) hD [] rfl (by decide)
      have hFc : ∀ q, va_A ([] ++ wK C ad u496_95) H.size q → A q := bd_free (lc := []) hD hS hA [] rfl
      obtain ⟨hbk, hwp⟩ := hwp
      refine va_calli (va_runV (As := []) (rest := []) ⟨hx, hb, hml, hown, hts⟩ (mk_X10_errorCode l hst D C ad u496_95 H.size _ hwp) (cwV 0 hts gc_L_88 rfl rfl rfl (by decide +kernel) ⟨Nat.le_of_ble_eq_true rfl, Nat.le_of_ble_eq_true rfl⟩) ⟨fun a U g mk q => by obtain ⟨q0, q1, qP, qK, qD, qT⟩ := q; exact ⟨q0, q1, qP, va_K.moved (u := U) (U := U.calling g mk a) (Vm.Alike.refl U.vm) qK, qD, qT.mv (U := U.calling g mk a) (State.WarmedH.refl U)⟩, va_recv hK hPc (ci := 10) (q0 := 0) rfl rfl, fun U hU hW => ⟨rfl, by rw [hU], by rw [hU]; exact hPc, va_K.moved hW.alike hK, hDc.weaken (fun _ _ _ _ => trivial), hT.call hS hFc hU hW⟩⟩ rfl rfl hl.1 rfl (lv_room (Nat.le_of_ble_eq_true rfl)) dL_load_504 ⟨hbk.1, hbk.2⟩) hS (fun q _ h => hFc q h) hFc (fun r504 u t H1 locs ht hvm hwp hB hz1 hk1 hS => ?_)
      obtain ⟨u504_96, rfl⟩ : ∃ z, z = u := ⟨_, rfl⟩
      obtain ⟨hP1, -, hD1⟩ := hB
      rw [ht] at hP1
      obtain ⟨hP, hD⟩ := bd_join (lr := [(a169, .inl (C 0, 8, .inl ta169)), (a175, .inl (C 0, 8, .inl ta175)), (a25, .inr (12, [.ref tpa25, .int 0, .int tla25, .int tca25])), (tpa25, .inl (C 1, tna25, .inl tfa25)), (u489_90, .inr (11, [.ref u489_91, .int 0, .int 0, .int 0])), (u489_91, .inl (C 1, u489_92, .inl u489_93))]) (l1 := []) (b1 := wK C ad u504_96) hP hD [] [0, 1, 2, 3, 4, 5] rfl rfl (by decide) (by decide) hk1 hFc hP1 hD1
      generalize H1 = H at hP hS ⊢
      have hP : va_P D vwCl ([(a169, .inl (C 0, 8, .inl ta169)), (a175, .inl (C 0, 8, .inl ta175)), (a25, .inr (12, [.ref tpa25, .int 0, .int tla25, .int tca25])), (tpa25, .inl (C 1, tna25, .inl tfa25)), (u489_90, .inr (11, [.ref u489_91, .int 0, .int 0, .int 0])), (u489_91, .inl (C 1, u489_92, .inl u489_93))] ++ wK C ad u504_96) H := hP
      have hD : va_D A ([(a169, .inl (C 0, 8, .inl ta169)), (a175, .inl (C 0, 8, .inl ta175)), (a25, .inr (12, [.ref tpa25, .int 0, .int tla25, .int tca25])), (tpa25, .inl (C 1, tna25, .inl tfa25)), (u489_90, .inr (11, [.ref u489_91, .int 0, .int 0, .int 0])), (u489_91, .inl (C 1, u489_92, .inl u489_93))] ++ wK C ad u504_96) := hD
      refine lv_if_ne (tgt := 556) hx hb dL_load_507 (by decide) (fun c507 => ?_) (fun c507 => ?_)
      · have hwp := hwp.1 c507
        refine lv_iconst (v := 0) hx hb dL_load_556 (by decide) ?_
        obtain ⟨hbk, hwp⟩ := hwp
        have hP9 : va_P D vwCl ([] ++ wK C ad u504_96) H := bd_P (lc := []) hP [] rfl
        have hD9 : va_D A ([] ++ wK C ad u504_96) := bd_D (lc := []) hD [] rfl (by decide)
        refine W.widen (k := 3000) (n := 6000) hbk.1 hbk.2 ?_
        exact W.zret (v := (0 : Int32)) (ty := .boolean) hx hb hr rfl (fun t ht hW => ⟨⟨(0 : Int32), (u504_96), rfl, hwp, by rw [ht]; exact hP9, va_K.moved hW.alike hK, hD9⟩, hS.F ht⟩) hS.2.2 dL_load_557
      · have hwp := hwp.2 c507
        refine lv_aload_n hx hb dL_load_510 rfl (lv_at hl 0 rfl) ?_
        have hPc : va_P D vwCl ([] ++ wK C ad u504_96) H := bd_P (lc := []) hP [] rfl
        have hDc : va_D A ([] ++ wK C ad u504_96) := bd_D (lc := []) hD [] rfl (by decide)
        have hFc : ∀ q, va_A ([] ++ wK C ad u504_96) H.size q → A q := bd_free (lc := []) hD hS hA [] rfl
        obtain ⟨hbk, hwp⟩ := hwp
        refine va_calli (va_runV (As := []) (rest := []) ⟨hx, hb, hml, hown, hts⟩ (mk_X10_errorPosition l hst D C ad u504_96 H.size _ hwp) (cwV 0 hts gc_L_91 rfl rfl rfl (by decide +kernel) ⟨Nat.le_of_ble_eq_true rfl, Nat.le_of_ble_eq_true rfl⟩) ⟨fun a U g mk q => by obtain ⟨q0, q1, qP, qK, qD, qT⟩ := q; exact ⟨q0, q1, qP, va_K.moved (u := U) (U := U.calling g mk a) (Vm.Alike.refl U.vm) qK, qD, qT.mv (U := U.calling g mk a) (State.WarmedH.refl U)⟩, va_recv hK hPc (ci := 10) (q0 := 0) rfl rfl, fun U hU hW => ⟨rfl, by rw [hU], by rw [hU]; exact hPc, va_K.moved hW.alike hK, hDc.weaken (fun _ _ _ _ => trivial), hT.call hS hFc hU hW⟩⟩ rfl rfl hl.1 rfl (lv_room (Nat.le_of_ble_eq_true rfl)) dL_load_511 ⟨hbk.1, hbk.2⟩) hS (fun q _ h => hFc q h) hFc (fun r511 u t H1 locs ht hvm hwp hB hz1 hk1 hS => ?_)
        obtain ⟨u511_97, rfl⟩ : ∃ z, z = u := ⟨_, rfl⟩
        obtain ⟨hP1, -, hD1⟩ := hB
        rw [ht] at hP1
        obtain ⟨hP, hD⟩ := bd_join (lr := [(a169, .inl (C 0, 8, .inl ta169)), (a175, .inl (C 0, 8, .inl ta175)), (a25, .inr (12, [.ref tpa25, .int 0, .int tla25, .int tca25])), (tpa25, .inl (C 1, tna25, .inl tfa25)), (u489_90, .inr (11, [.ref u489_91, .int 0, .int 0, .int 0])), (u489_91, .inl (C 1, u489_92, .inl u489_93))]) (l1 := []) (b1 := wK C ad u511_97) hP hD [] [0, 1, 2, 3, 4, 5] rfl rfl (by decide) (by decide) hk1 hFc hP1 hD1
        generalize H1 = H at hP hS ⊢
        have hP : va_P D vwCl ([(a169, .inl (C 0, 8, .inl ta169)), (a175, .inl (C 0, 8, .inl ta175)), (a25, .inr (12, [.ref tpa25, .int 0, .int tla25, .int tca25])), (tpa25, .inl (C 1, tna25, .inl tfa25)), (u489_90, .inr (11, [.ref u489_91, .int 0, .int 0, .int 0])), (u489_91, .inl (C 1, u489_92, .inl u489_93))] ++ wK C ad u511_97) H := hP
        have hD : va_D A ([(a169, .inl (C 0, 8, .inl ta169)), (a175, .inl (C 0, 8, .inl ta175)), (a25, .inr (12, [.ref tpa25, .int 0, .int tla25, .int tca25])), (tpa25, .inl (C 1, tna25, .inl tfa25)), (u489_90, .inr (11, [.ref u489_91, .int 0, .int 0, .int 0])), (u489_91, .inl (C 1, u489_92, .inl u489_93))] ++ wK C ad u511_97) := hD
        refine lv_iconst (v := (-1)) hx hb dL_load_514 (by decide) ?_
        refine lv_icmp_ne (tgt := 556) hx hb dL_load_515 (by decide) (fun c515 => ?_) (fun c515 => ?_)
        · have hwp := hwp.1 c515
          refine lv_iconst (v := 0) hx hb dL_load_556 (by decide) ?_
          obtain ⟨hbk, hwp⟩ := hwp
          have hP9 : va_P D vwCl ([] ++ wK C ad u511_97) H := bd_P (lc := []) hP [] rfl
          have hD9 : va_D A ([] ++ wK C ad u511_97) := bd_D (lc := []) hD [] rfl (by decide)
          refine W.widen (k := 3000) (n := 6000) hbk.1 hbk.2 ?_
          exact W.zret (v := (0 : Int32)) (ty := .boolean) hx hb hr rfl (fun t ht hW => ⟨⟨(0 : Int32), (u511_97), rfl, hwp, by rw [ht]; exact hP9, va_K.moved hW.alike hK, hD9⟩, hS.F ht⟩) hS.2.2 dL_load_557
        · have hwp := hwp.2 c515
          refine lv_aload_n hx hb dL_load_518 rfl (lv_at hl 0 rfl) ?_
          refine lv_iconst (v := 0) hx hb dL_load_519 (by decide) ?_
          have hPc : va_P D vwCl ([] ++ wK C ad u511_97) H := bd_P (lc := []) hP [] rfl
          have hDc : va_D A ([] ++ wK C ad u511_97) := bd_D (lc := []) hD [] rfl (by decide)
          have hFc : ∀ q, va_A ([] ++ wK C ad u511_97) H.size q → A q := bd_free (lc := []) hD hS hA [] rfl
          obtain ⟨hbk, hwp⟩ := hwp
          refine va_calli (va_runV (As := [.int (0 : Int32)]) (rest := []) ⟨hx, hb, hml, hown, hts⟩ (mk_X10_property l hst D C ad (0 : Int32) u511_97 H.size _ hwp) (cwV 1 hts gc_L_94 rfl rfl rfl (by decide +kernel) ⟨Nat.le_of_ble_eq_true rfl, Nat.le_of_ble_eq_true rfl⟩) ⟨fun a U g mk q => by obtain ⟨q0, q1, qP, qK, qD, qT⟩ := q; exact ⟨q0, q1, qP, va_K.moved (u := U) (U := U.calling g mk a) (Vm.Alike.refl U.vm) qK, qD, qT.mv (U := U.calling g mk a) (State.WarmedH.refl U)⟩, va_recv hK hPc (ci := 10) (q0 := 0) rfl rfl, fun U hU hW => ⟨rfl, by rw [hU], by rw [hU]; exact hPc, va_K.moved hW.alike hK, hDc.weaken (fun _ _ _ _ => trivial), hT.call hS hFc hU hW⟩⟩ rfl rfl hl.1 rfl (lv_room (Nat.le_of_ble_eq_true rfl)) dL_load_520 ⟨hbk.1, hbk.2⟩) hS (fun q _ h => hFc q h) hFc (fun r520 u t H1 locs ht hvm hwp hB hz1 hk1 hS => ?_)
          obtain ⟨u520_98, rfl⟩ : ∃ z, z = u := ⟨_, rfl⟩
          obtain ⟨hP1, -, hD1⟩ := hB
          rw [ht] at hP1
          obtain ⟨hP, hD⟩ := bd_join (lr := [(a169, .inl (C 0, 8, .inl ta169)), (a175, .inl (C 0, 8, .inl ta175)), (a25, .inr (12, [.ref tpa25, .int 0, .int tla25, .int tca25])), (tpa25, .inl (C 1, tna25, .inl tfa25)), (u489_90, .inr (11, [.ref u489_91, .int 0, .int 0, .int 0])), (u489_91, .inl (C 1, u489_92, .inl u489_93))]) (l1 := []) (b1 := wK C ad u520_98) hP hD [] [0, 1, 2, 3, 4, 5] rfl rfl (by decide) (by decide) hk1 hFc hP1 hD1
          generalize H1 = H at hP hS ⊢
          have hP : va_P D vwCl ([(a169, .inl (C 0, 8, .inl ta169)), (a175, .inl (C 0, 8, .inl ta175)), (a25, .inr (12, [.ref tpa25, .int 0, .int tla25, .int tca25])), (tpa25, .inl (C 1, tna25, .inl tfa25)), (u489_90, .inr (11, [.ref u489_91, .int 0, .int 0, .int 0])), (u489_91, .inl (C 1, u489_92, .inl u489_93))] ++ wK C ad u520_98) H := hP
          have hD : va_D A ([(a169, .inl (C 0, 8, .inl ta169)), (a175, .inl (C 0, 8, .inl ta175)), (a25, .inr (12, [.ref tpa25, .int 0, .int tla25, .int tca25])), (tpa25, .inl (C 1, tna25, .inl tfa25)), (u489_90, .inr (11, [.ref u489_91, .int 0, .int 0, .int 0])), (u489_91, .inl (C 1, u489_92, .inl u489_93))] ++ wK C ad u520_98) := hD
          refine lv_iload_n hx hb dL_load_523 rfl (lv_at hl 2 rfl) ?_
          refine lv_icmp_ne (tgt := 556) hx hb dL_load_524 (by decide) (fun c524 => ?_) (fun c524 => ?_)
          · have hwp := hwp.1 c524
            refine lv_iconst (v := 0) hx hb dL_load_556 (by decide) ?_
            obtain ⟨hbk, hwp⟩ := hwp
            have hP9 : va_P D vwCl ([] ++ wK C ad u520_98) H := bd_P (lc := []) hP [] rfl
            have hD9 : va_D A ([] ++ wK C ad u520_98) := bd_D (lc := []) hD [] rfl (by decide)
            refine W.widen (k := 3000) (n := 6000) hbk.1 hbk.2 ?_
            exact W.zret (v := (0 : Int32)) (ty := .boolean) hx hb hr rfl (fun t ht hW => ⟨⟨(0 : Int32), (u520_98), rfl, hwp, by rw [ht]; exact hP9, va_K.moved hW.alike hK, hD9⟩, hS.F ht⟩) hS.2.2 dL_load_557
          · have hwp := hwp.2 c524
            refine lv_aload_n hx hb dL_load_527 rfl (lv_at hl 0 rfl) ?_
            refine lv_bipush (v := 7) hx hb dL_load_528 (by decide) ?_
            have hPc : va_P D vwCl ([] ++ wK C ad u520_98) H := bd_P (lc := []) hP [] rfl
            have hDc : va_D A ([] ++ wK C ad u520_98) := bd_D (lc := []) hD [] rfl (by decide)
            have hFc : ∀ q, va_A ([] ++ wK C ad u520_98) H.size q → A q := bd_free (lc := []) hD hS hA [] rfl
            obtain ⟨hbk, hwp⟩ := hwp
            refine va_calli (va_runV (As := [.int (7 : Int32)]) (rest := []) ⟨hx, hb, hml, hown, hts⟩ (mk_X10_property l hst D C ad (7 : Int32) u520_98 H.size _ hwp) (cwV 1 hts gc_L_94 rfl rfl rfl (by decide +kernel) ⟨Nat.le_of_ble_eq_true rfl, Nat.le_of_ble_eq_true rfl⟩) ⟨fun a U g mk q => by obtain ⟨q0, q1, qP, qK, qD, qT⟩ := q; exact ⟨q0, q1, qP, va_K.moved (u := U) (U := U.calling g mk a) (Vm.Alike.refl U.vm) qK, qD, qT.mv (U := U.calling g mk a) (State.WarmedH.refl U)⟩, va_recv hK hPc (ci := 10) (q0 := 0) rfl rfl, fun U hU hW => ⟨rfl, by rw [hU], by rw [hU]; exact hPc, va_K.moved hW.alike hK, hDc.weaken (fun _ _ _ _ => trivial), hT.call hS hFc hU hW⟩⟩ rfl rfl hl.1 rfl (lv_room (Nat.le_of_ble_eq_true rfl)) dL_load_530 ⟨hbk.1, hbk.2⟩) hS (fun q _ h => hFc q h) hFc (fun r530 u t H1 locs ht hvm hwp hB hz1 hk1 hS => ?_)
            obtain ⟨u530_99, rfl⟩ : ∃ z, z = u := ⟨_, rfl⟩
            obtain ⟨hP1, -, hD1⟩ := hB
            rw [ht] at hP1
            obtain ⟨hP, hD⟩ := bd_join (lr := [(a169, .inl (C 0, 8, .inl ta169)), (a175, .inl (C 0, 8, .inl ta175)), (a25, .inr (12, [.ref tpa25, .int 0, .int tla25, .int tca25])), (tpa25, .inl (C 1, tna25, .inl tfa25)), (u489_90, .inr (11, [.ref u489_91, .int 0, .int 0, .int 0])), (u489_91, .inl (C 1, u489_92, .inl u489_93))]) (l1 := []) (b1 := wK C ad u530_99) hP hD [] [0, 1, 2, 3, 4, 5] rfl rfl (by decide) (by decide) hk1 hFc hP1 hD1
            generalize H1 = H at hP hS ⊢
            have hP : va_P D vwCl ([(a169, .inl (C 0, 8, .inl ta169)), (a175, .inl (C 0, 8, .inl ta175)), (a25, .inr (12, [.ref tpa25, .int 0, .int tla25, .int tca25])), (tpa25, .inl (C 1, tna25, .inl tfa25)), (u489_90, .inr (11, [.ref u489_91, .int 0, .int 0, .int 0])), (u489_91, .inl (C 1, u489_92, .inl u489_93))] ++ wK C ad u530_99) H := hP
            have hD : va_D A ([(a169, .inl (C 0, 8, .inl ta169)), (a175, .inl (C 0, 8, .inl ta175)), (a25, .inr (12, [.ref tpa25, .int 0, .int tla25, .int tca25])), (tpa25, .inl (C 1, tna25, .inl tfa25)), (u489_90, .inr (11, [.ref u489_91, .int 0, .int 0, .int 0])), (u489_91, .inl (C 1, u489_92, .inl u489_93))] ++ wK C ad u530_99) := hD
            refine lv_if_ne (tgt := 556) hx hb dL_load_533 (by decide) (fun c533 => ?_) (fun c533 => ?_)
            · have hwp := hwp.1 c533
              refine lv_iconst (v := 0) hx hb dL_load_556 (by decide) ?_
              obtain ⟨hbk, hwp⟩ := hwp
              have hP9 : va_P D vwCl ([] ++ wK C ad u530_99) H := bd_P (lc := []) hP [] rfl
              have hD9 : va_D A ([] ++ wK C ad u530_99) := bd_D (lc := []) hD [] rfl (by decide)
              refine W.widen (k := 3000) (n := 6000) hbk.1 hbk.2 ?_
              exact W.zret (v := (0 : Int32)) (ty := .boolean) hx hb hr rfl (fun t ht hW => ⟨⟨(0 : Int32), (u530_99), rfl, hwp, by rw [ht]; exact hP9, va_K.moved hW.alike hK, hD9⟩, hS.F ht⟩) hS.2.2 dL_load_557
            · have hwp := hwp.2 c533
              refine lv_aload_n hx hb dL_load_536 rfl (lv_at hl 0 rfl) ?_
              refine lv_iconst (v := 3) hx hb dL_load_537 (by decide) ?_
              have hPc : va_P D vwCl ([] ++ wK C ad u530_99) H := bd_P (lc := []) hP [] rfl
              have hDc : va_D A ([] ++ wK C ad u530_99) := bd_D (lc := []) hD [] rfl (by decide)
              have hFc : ∀ q, va_A ([] ++ wK C ad u530_99) H.size q → A q := bd_free (lc := []) hD hS hA [] rfl
              obtain ⟨hbk, hwp⟩ := hwp
              refine va_calli (va_runV (As := [.int (3 : Int32)]) (rest := []) ⟨hx, hb, hml, hown, hts⟩ (mk_X10_property l hst D C ad (3 : Int32) u530_99 H.size _ hwp) (cwV 1 hts gc_L_94 rfl rfl rfl (by decide +kernel) ⟨Nat.le_of_ble_eq_true rfl, Nat.le_of_ble_eq_true rfl⟩) ⟨fun a U g mk q => by obtain ⟨q0, q1, qP, qK, qD, qT⟩ := q; exact ⟨q0, q1, qP, va_K.moved (u := U) (U := U.calling g mk a) (Vm.Alike.refl U.vm) qK, qD, qT.mv (U := U.calling g mk a) (State.WarmedH.refl U)⟩, va_recv hK hPc (ci := 10) (q0 := 0) rfl rfl, fun U hU hW => ⟨rfl, by rw [hU], by rw [hU]; exact hPc, va_K.moved hW.alike hK, hDc.weaken (fun _ _ _ _ => trivial), hT.call hS hFc hU hW⟩⟩ rfl rfl hl.1 rfl (lv_room (Nat.le_of_ble_eq_true rfl)) dL_load_538 ⟨hbk.1, hbk.2⟩) hS (fun q _ h => hFc q h) hFc (fun r538 u t H1 locs ht hvm hwp hB hz1 hk1 hS => ?_)
              obtain ⟨u538_100, rfl⟩ : ∃ z, z = u := ⟨_, rfl⟩
              obtain ⟨hP1, -, hD1⟩ := hB
              rw [ht] at hP1
              obtain ⟨hP, hD⟩ := bd_join (lr := [(a169, .inl (C 0, 8, .inl ta169)), (a175, .inl (C 0, 8, .inl ta175)), (a25, .inr (12, [.ref tpa25, .int 0, .int tla25, .int tca25])), (tpa25, .inl (C 1, tna25, .inl tfa25)), (u489_90, .inr (11, [.ref u489_91, .int 0, .int 0, .int 0])), (u489_91, .inl (C 1, u489_92, .inl u489_93))]) (l1 := []) (b1 := wK C ad u538_100) hP hD [] [0, 1, 2, 3, 4, 5] rfl rfl (by decide) (by decide) hk1 hFc hP1 hD1
              generalize H1 = H at hP hS ⊢
              have hP : va_P D vwCl ([(a169, .inl (C 0, 8, .inl ta169)), (a175, .inl (C 0, 8, .inl ta175)), (a25, .inr (12, [.ref tpa25, .int 0, .int tla25, .int tca25])), (tpa25, .inl (C 1, tna25, .inl tfa25)), (u489_90, .inr (11, [.ref u489_91, .int 0, .int 0, .int 0])), (u489_91, .inl (C 1, u489_92, .inl u489_93))] ++ wK C ad u538_100) H := hP
              have hD : va_D A ([(a169, .inl (C 0, 8, .inl ta169)), (a175, .inl (C 0, 8, .inl ta175)), (a25, .inr (12, [.ref tpa25, .int 0, .int tla25, .int tca25])), (tpa25, .inl (C 1, tna25, .inl tfa25)), (u489_90, .inr (11, [.ref u489_91, .int 0, .int 0, .int 0])), (u489_91, .inl (C 1, u489_92, .inl u489_93))] ++ wK C ad u538_100) := hD
              refine lv_iload hx hb dL_load_541 (lv_at hl 7 rfl) ?_
              refine lv_icmp_ne (tgt := 556) hx hb dL_load_543 (by decide) (fun c543 => ?_) (fun c543 => ?_)
              · have hwp := hwp.1 c543
                refine lv_iconst (v := 0) hx hb dL_load_556 (by decide) ?_
                obtain ⟨hbk, hwp⟩ := hwp
                have hP9 : va_P D vwCl ([] ++ wK C ad u538_100) H := bd_P (lc := []) hP [] rfl
                have hD9 : va_D A ([] ++ wK C ad u538_100) := bd_D (lc := []) hD [] rfl (by decide)
                refine W.widen (k := 3000) (n := 6000) hbk.1 hbk.2 ?_
                exact W.zret (v := (0 : Int32)) (ty := .boolean) hx hb hr rfl (fun t ht hW => ⟨⟨(0 : Int32), (u538_100), rfl, hwp, by rw [ht]; exact hP9, va_K.moved hW.alike hK, hD9⟩, hS.F ht⟩) hS.2.2 dL_load_557
              · have hwp := hwp.2 c543
                refine lv_aload_n hx hb dL_load_546 rfl (lv_at hl 0 rfl) ?_
                refine lv_iconst (v := 4) hx hb dL_load_547 (by decide) ?_
                have hPc : va_P D vwCl ([] ++ wK C ad u538_100) H := bd_P (lc := []) hP [] rfl
                have hDc : va_D A ([] ++ wK C ad u538_100) := bd_D (lc := []) hD [] rfl (by decide)
                have hFc : ∀ q, va_A ([] ++ wK C ad u538_100) H.size q → A q := bd_free (lc := []) hD hS hA [] rfl
                obtain ⟨hbk, hwp⟩ := hwp
                refine va_calli (va_runV (As := [.int (4 : Int32)]) (rest := []) ⟨hx, hb, hml, hown, hts⟩ (mk_X10_property l hst D C ad (4 : Int32) u538_100 H.size _ hwp) (cwV 1 hts gc_L_94 rfl rfl rfl (by decide +kernel) ⟨Nat.le_of_ble_eq_true rfl, Nat.le_of_ble_eq_true rfl⟩) ⟨fun a U g mk q => by obtain ⟨q0, q1, qP, qK, qD, qT⟩ := q; exact ⟨q0, q1, qP, va_K.moved (u := U) (U := U.calling g mk a) (Vm.Alike.refl U.vm) qK, qD, qT.mv (U := U.calling g mk a) (State.WarmedH.refl U)⟩, va_recv hK hPc (ci := 10) (q0 := 0) rfl rfl, fun U hU hW => ⟨rfl, by rw [hU], by rw [hU]; exact hPc, va_K.moved hW.alike hK, hDc.weaken (fun _ _ _ _ => trivial), hT.call hS hFc hU hW⟩⟩ rfl rfl hl.1 rfl (lv_room (Nat.le_of_ble_eq_true rfl)) dL_load_548 ⟨hbk.1, hbk.2⟩) hS (fun q _ h => hFc q h) hFc (fun r548 u t H1 locs ht hvm hwp hB hz1 hk1 hS => ?_)
                obtain ⟨u548_101, rfl⟩ : ∃ z, z = u := ⟨_, rfl⟩
                obtain ⟨hP1, -, hD1⟩ := hB
                rw [ht] at hP1
                obtain ⟨hP, hD⟩ := bd_join (lr := [(a169, .inl (C 0, 8, .inl ta169)), (a175, .inl (C 0, 8, .inl ta175)), (a25, .inr (12, [.ref tpa25, .int 0, .int tla25, .int tca25])), (tpa25, .inl (C 1, tna25, .inl tfa25)), (u489_90, .inr (11, [.ref u489_91, .int 0, .int 0, .int 0])), (u489_91, .inl (C 1, u489_92, .inl u489_93))]) (l1 := []) (b1 := wK C ad u548_101) hP hD [] [0, 1, 2, 3, 4, 5] rfl rfl (by decide) (by decide) hk1 hFc hP1 hD1
                generalize H1 = H at hP hS ⊢
                have hP : va_P D vwCl ([(a169, .inl (C 0, 8, .inl ta169)), (a175, .inl (C 0, 8, .inl ta175)), (a25, .inr (12, [.ref tpa25, .int 0, .int tla25, .int tca25])), (tpa25, .inl (C 1, tna25, .inl tfa25)), (u489_90, .inr (11, [.ref u489_91, .int 0, .int 0, .int 0])), (u489_91, .inl (C 1, u489_92, .inl u489_93))] ++ wK C ad u548_101) H := hP
                have hD : va_D A ([(a169, .inl (C 0, 8, .inl ta169)), (a175, .inl (C 0, 8, .inl ta175)), (a25, .inr (12, [.ref tpa25, .int 0, .int tla25, .int tca25])), (tpa25, .inl (C 1, tna25, .inl tfa25)), (u489_90, .inr (11, [.ref u489_91, .int 0, .int 0, .int 0])), (u489_91, .inl (C 1, u489_92, .inl u489_93))] ++ wK C ad u548_101) := hD
                refine lv_iload hx hb dL_load_551 (lv_at hl 8 rfl) ?_
                refine lv_icmp_eq (tgt := 558) hx hb dL_load_553 (by decide) (fun c553 => ?_) (fun c553 => ?_)
                · have hwp := hwp.1 c553
                  refine lv_aload_n hx hb dL_load_558 rfl (lv_at hl 0 rfl) ?_
                  refine lv_iconst (v := 5) hx hb dL_load_559 (by decide) ?_
                  have hPc : va_P D vwCl ([] ++ wK C ad u548_101) H := bd_P (lc := []) hP [] rfl
                  have hDc : va_D A ([] ++ wK C ad u548_101) := bd_D (lc := []) hD [] rfl (by decide)
                  have hFc : ∀ q, va_A ([] ++ wK C ad u548_101) H.size q → A q := bd_free (lc := []) hD hS hA [] rfl
                  obtain ⟨hbk, hwp⟩ := hwp
                  refine va_calli (va_runV (As := [.int (5 : Int32)]) (rest := []) ⟨hx, hb, hml, hown, hts⟩ (mk_X10_property l hst D C ad (5 : Int32) u548_101 H.size _ hwp) (cwV 1 hts gc_L_94 rfl rfl rfl (by decide +kernel) ⟨Nat.le_of_ble_eq_true rfl, Nat.le_of_ble_eq_true rfl⟩) ⟨fun a U g mk q => by obtain ⟨q0, q1, qP, qK, qD, qT⟩ := q; exact ⟨q0, q1, qP, va_K.moved (u := U) (U := U.calling g mk a) (Vm.Alike.refl U.vm) qK, qD, qT.mv (U := U.calling g mk a) (State.WarmedH.refl U)⟩, va_recv hK hPc (ci := 10) (q0 := 0) rfl rfl, fun U hU hW => ⟨rfl, by rw [hU], by rw [hU]; exact hPc, va_K.moved hW.alike hK, hDc.weaken (fun _ _ _ _ => trivial), hT.call hS hFc hU hW⟩⟩ rfl rfl hl.1 rfl (lv_room (Nat.le_of_ble_eq_true rfl)) dL_load_560 ⟨hbk.1, hbk.2⟩) hS (fun q _ h => hFc q h) hFc (fun r560 u t H1 locs ht hvm hwp hB hz1 hk1 hS => ?_)
                  obtain ⟨u560_102, rfl⟩ : ∃ z, z = u := ⟨_, rfl⟩
                  obtain ⟨hP1, -, hD1⟩ := hB
                  rw [ht] at hP1
                  obtain ⟨hP, hD⟩ := bd_join (lr := [(a169, .inl (C 0, 8, .inl ta169)), (a175, .inl (C 0, 8, .inl ta175)), (a25, .inr (12, [.ref tpa25, .int 0, .int tla25, .int tca25])), (tpa25, .inl (C 1, tna25, .inl tfa25)), (u489_90, .inr (11, [.ref u489_91, .int 0, .int 0, .int 0])), (u489_91, .inl (C 1, u489_92, .inl u489_93))]) (l1 := []) (b1 := wK C ad u560_102) hP hD [] [0, 1, 2, 3, 4, 5] rfl rfl (by decide) (by decide) hk1 hFc hP1 hD1
                  generalize H1 = H at hP hS ⊢
                  have hP : va_P D vwCl ([(a169, .inl (C 0, 8, .inl ta169)), (a175, .inl (C 0, 8, .inl ta175)), (a25, .inr (12, [.ref tpa25, .int 0, .int tla25, .int tca25])), (tpa25, .inl (C 1, tna25, .inl tfa25)), (u489_90, .inr (11, [.ref u489_91, .int 0, .int 0, .int 0])), (u489_91, .inl (C 1, u489_92, .inl u489_93))] ++ wK C ad u560_102) H := hP
                  have hD : va_D A ([(a169, .inl (C 0, 8, .inl ta169)), (a175, .inl (C 0, 8, .inl ta175)), (a25, .inr (12, [.ref tpa25, .int 0, .int tla25, .int tca25])), (tpa25, .inl (C 1, tna25, .inl tfa25)), (u489_90, .inr (11, [.ref u489_91, .int 0, .int 0, .int 0])), (u489_91, .inl (C 1, u489_92, .inl u489_93))] ++ wK C ad u560_102) := hD
                  refine lv_iload hx hb dL_load_563 (lv_at hl 9 rfl) ?_
                  refine lv_if_ge (tgt := 572) hx hb dL_load_565 (by decide) (fun c565 => ?_) (fun c565 => ?_)
                  · have hwp := hwp.1 c565
                    refine lv_iconst (v := 1) hx hb dL_load_572 (by decide) ?_
                    refine lv_iload hx hb dL_load_573 (lv_at hl 9 rfl) ?_
                    refine lv_ishl hx hb dL_load_575 ?_
                    obtain ⟨hbk, hwp⟩ := hwp
                    refine W.widen (k := 3000) (n := 6000) hbk.1 hbk.2 ?_
                    have hl9 := lv_sub (l' := [(0, .ref (ad 0)), (1, .ref q1), (2, .int x2), (3, .int x3), (5, .ref a169), (6, .ref a175), (10, .int x10)]) hl [0, 1, 2, 3, 5, 6, 10] rfl
                    have hP9 : va_P D vwCl ([(a169, .inl (C 0, 8, .inl ta169)), (a175, .inl (C 0, 8, .inl ta175))] ++ wK C ad u560_102) H := bd_P (lc := [(a169, .inl (C 0, 8, .inl ta169)), (a175, .inl (C 0, 8, .inl ta175))]) hP [0, 1] rfl
                    have hD9 : va_D A ([(a169, .inl (C 0, 8, .inl ta169)), (a175, .inl (C 0, 8, .inl ta175))] ++ wK C ad u560_102) := bd_D (lc := [(a169, .inl (C 0, 8, .inl ta169)), (a175, .inl (C 0, 8, .inl ta175))]) hD [0, 1] rfl (by decide)
                    exact HB576 a169 a175 x2 x3 x10 r560 ((1 : Int32) <<< (x9 &&& 31)) u560_102 ta169 ta175 H locs ls hl9 hP9 hD9 hS hwp
                  · have hwp := hwp.2 c565
                    refine lv_iconst (v := 0) hx hb dL_load_568 (by decide) ?_
                    refine lv_goto (tgt := 576) hx hb dL_load_569 (by decide) ?_
                    obtain ⟨hbk, hwp⟩ := hwp
                    refine W.widen (k := 3000) (n := 6000) hbk.1 hbk.2 ?_
                    have hl9 := lv_sub (l' := [(0, .ref (ad 0)), (1, .ref q1), (2, .int x2), (3, .int x3), (5, .ref a169), (6, .ref a175), (10, .int x10)]) hl [0, 1, 2, 3, 5, 6, 10] rfl
                    have hP9 : va_P D vwCl ([(a169, .inl (C 0, 8, .inl ta169)), (a175, .inl (C 0, 8, .inl ta175))] ++ wK C ad u560_102) H := bd_P (lc := [(a169, .inl (C 0, 8, .inl ta169)), (a175, .inl (C 0, 8, .inl ta175))]) hP [0, 1] rfl
                    have hD9 : va_D A ([(a169, .inl (C 0, 8, .inl ta169)), (a175, .inl (C 0, 8, .inl ta175))] ++ wK C ad u560_102) := bd_D (lc := [(a169, .inl (C 0, 8, .inl ta169)), (a175, .inl (C 0, 8, .inl ta175))]) hD [0, 1] rfl (by decide)
                    exact HB576 a169 a175 x2 x3 x10 r560 (0 : Int32) u560_102 ta169 ta175 H locs ls hl9 hP9 hD9 hS hwp
                · have hwp := hwp.2 c553
                  refine lv_iconst (v := 0) hx hb dL_load_556 (by decide) ?_
                  obtain ⟨hbk, hwp⟩ := hwp
                  have hP9 : va_P D vwCl ([] ++ wK C ad u548_101) H := bd_P (lc := []) hP [] rfl
                  have hD9 : va_D A ([] ++ wK C ad u548_101) := bd_D (lc := []) hD [] rfl (by decide)
                  refine W.widen (k := 3000) (n := 6000) hbk.1 hbk.2 ?_
                  exact W.zret (v := (0 : Int32)) (ty := .boolean) hx hb hr rfl (fun t ht hW => ⟨⟨(0 : Int32), (u548_101), rfl, hwp, by rw [ht]; exact hP9, va_K.moved hW.alike hK, hD9⟩, hS.F ht⟩) hS.2.2 dL_load_557
  have HB463 : ∀ (a25 : Nat) (a169 : Nat) (a175 : Nat) (x2 : Int32) (x3 : Int32) (x7 : Int32) (x8 : Int32) (x9 : Int32) (x10 : Int32) (d : DT) (tpa25 : Nat) (tna25 : Nat) (tfa25 : Nat → Int32) (tca25 : Int32) (tla25 : Int32) (ta169 : Nat → Int32) (ta175 : Nat → Int32) (H : Heap) (locs : List Loc) (ls : Array Slot), lv_has ls 13 [(0, .ref (ad 0)), (1, .ref q1), (2, .int x2), (3, .int x3), (4, .ref a25), (5, .ref a169), (6, .ref a175), (7, .int x7), (8, .int x8), (9, .int x9), (10, .int x10)] → va_P D vwCl ([(a25, .inr (12, [.ref tpa25, .int 0, .int tla25, .int tca25])), (tpa25, .inl (C 1, tna25, .inl tfa25)), (a169, .inl (C 0, 8, .inl ta169)), (a175, .inl (C 0, 8, .inl ta175))] ++ wK C ad d) H → va_D A ([(a25, .inr (12, [.ref tpa25, .int 0, .int tla25, .int tca25])), (tpa25, .inl (C 1, tna25, .inl tfa25)), (a169, .inl (C 0, 8, .inl ta169)), (a175, .inl (C 0, 8, .inl ta175))] ++ wK C ad d) → va_S A s.heap H locs → wp_L_load_b463 sn1 sx1 Q x2 x3 x7 x8 x9 x10 d tpa25 tna25 tfa25 tca25 tla25 ta169 ta175 → W p l e (headSpec ws_L_load rm_L_load).room s m ([.ref (ad 0), .ref q1] : List Value).toArray below meth c H locs (12 + tna25) (140 + 2 * tna25) (MQ below (q_L_load D C ad q1 sn1 sx1 Q A) ([.ref (ad 0), .ref q1] : List Value).toArray s 3000 6000 A) (F0 m 463 ls []) := by
    intro a25 a169 a175 x2 x3 x7 x8 x9 x10 d tpa25 tna25 tfa25 tca25 tla25 ta169 ta175 H locs ls hl hP hD hS hwp
    unfold wp_L_load_b463 at hwp
    refine lv_iload hx hb dL_load_463 (lv_at hl 10 rfl) ?_
    refine lv_if_lt (tgt := 486) hx hb dL_load_465 (by decide) (fun c465 => ?_) (fun c465 => ?_)
    · have hwp := hwp.1 c465
      obtain ⟨hbk, hwp⟩ := hwp
      refine W.widen (k := (12 + tna25)) (n := (140 + 2 * tna25)) hbk.1 hbk.2 ?_
      have hl9 := lv_sub (l' := [(0, .ref (ad 0)), (1, .ref q1), (2, .int x2), (3, .int x3), (4, .ref a25), (5, .ref a169), (6, .ref a175), (7, .int x7), (8, .int x8), (9, .int x9), (10, .int x10)]) hl [0, 1, 2, 3, 4, 5, 6, 7, 8, 9, 10] rfl
      have hP9 : va_P D vwCl ([(a25, .inr (12, [.ref tpa25, .int 0, .int tla25, .int tca25])), (tpa25, .inl (C 1, tna25, .inl tfa25)), (a169, .inl (C 0, 8, .inl ta169)), (a175, .inl (C 0, 8, .inl ta175))] ++ wK C ad d) H := bd_P (lc := [(a25, .inr (12, [.ref tpa25, .int 0, .int tla25, .int tca25])), (tpa25, .inl (C 1, tna25, .inl tfa25)), (a169, .inl (C 0, 8, .inl ta169)), (a175, .inl (C 0, 8, .inl ta175))]) hP [0, 1, 2, 3] rfl
      have hD9 : va_D A ([(a25, .inr (12, [.ref tpa25, .int 0, .int tla25, .int tca25])), (tpa25, .inl (C 1, tna25, .inl tfa25)), (a169, .inl (C 0, 8, .inl ta169)), (a175, .inl (C 0, 8, .inl ta175))] ++ wK C ad d) := bd_D (lc := [(a25, .inr (12, [.ref tpa25, .int 0, .int tla25, .int tca25])), (tpa25, .inl (C 1, tna25, .inl tfa25)), (a169, .inl (C 0, 8, .inl ta169)), (a175, .inl (C 0, 8, .inl ta175))]) hD [0, 1, 2, 3] rfl (by decide)
      exact HB486 a25 a169 a175 x2 x3 x7 x8 x9 x10 d tpa25 tna25 tfa25 tca25 tla25 ta169 ta175 H locs ls hl9 hP9 hD9 hS hwp
    · have hwp := hwp.2 c465
      refine lv_aload hx hb dL_load_468 (lv_at hl 4 rfl) ?_
      obtain ⟨sa470, hr_sa470, hs_sa470⟩ := hT.2.2.2.2.2.1 ("ParetoDeskLaw", 75, "never ", [110, 101, 118, 101, 114, 32]) (by decide)
      refine va_ldcS (own := RL) (tx := "never ") hx hb hown hr_sa470 dL_load_470 ?_
      have hPc := hP.sub (ws' := [(a25, .inr (12, [.ref tpa25, .int 0, .int tla25, .int tca25])), (tpa25, .inl (C 1, tna25, .inl tfa25))]) [0, 1] rfl
      have hDc := hD.sub (ws' := [(a25, .inr (12, [.ref tpa25, .int 0, .int tla25, .int tca25])), (tpa25, .inl (C 1, tna25, .inl tfa25))]) [0, 1] (by decide) rfl
      have hFc := va_free (wc := [(a25, .inr (12, [.ref tpa25, .int 0, .int tla25, .int tca25])), (tpa25, .inl (C 1, tna25, .inl tfa25))]) hD hS hA [0, 1] rfl
      obtain ⟨mb472, sb472, hbk, hwp⟩ := hwp
      refine va_callr (va_runV (As := [.ref sa470]) (rest := []) ⟨hx, hb, hml, hown, hts⟩ (met_J4_append_15ec4 l hst D C a25 sa470 ([110, 101, 118, 101, 114, 32]) tpa25 tna25 tfa25 tca25 tla25 mb472 sb472 H.size _ hwp) (cwV 1 hts gc_L_56 rfl rfl rfl (by decide +kernel) ⟨Nat.le_of_ble_eq_true rfl, Nat.le_of_ble_eq_true rfl⟩) ⟨fun a U g mk q => by obtain ⟨q0, q1, qP, qK, qD, qT, qS_q1⟩ := q; exact ⟨q0, q1, qP, va_K.moved (u := U) (U := U.calling g mk a) (Vm.Alike.refl U.vm) qK, qD, qT.mv (U := U.calling g mk a) (State.WarmedH.refl U), qS_q1.moved (U := U.calling g mk a) (Vm.Alike.refl U.vm)⟩, va_recv hK hPc (ci := 12) (q0 := 0) rfl rfl, fun U hU hW => ⟨rfl, by rw [hU], by rw [hU]; exact hPc, va_K.moved hW.alike hK, hDc.weaken (fun _ _ _ _ => trivial), hT.call hS hFc hU hW, hs_sa470.call hS hFc hU hW⟩⟩ rfl rfl hl.1 rfl (lv_room (Nat.le_of_ble_eq_true rfl)) dL_load_472 ⟨hbk.1, hbk.2⟩) hS (fun q _ h => hFc q h) hFc (fun u ra t H1 locs ht hvm hwp hB hz1 hk1 hS => ?_)
      obtain ⟨u472_107, u472_108, u472_109, u472_110⟩ := u
      obtain ⟨hra, hP1, -, hD1⟩ := hB
      have hra := hra.symm
      subst hra
      rw [ht] at hP1
      obtain ⟨hP, hD⟩ := bd_joinL (lr := [(a169, .inl (C 0, 8, .inl ta169)), (a175, .inl (C 0, 8, .inl ta175))]) (l1 := [(a25, .inr (12, [.ref u472_107, .int 0, .int tla25, .int u472_110])), (u472_107, .inl (C 1, u472_108, .inl u472_109))]) hP hD [0, 1] [2, 3] rfl rfl (by decide) (by decide) hk1 hFc hP1 hD1
      generalize H1 = H at hP hS ⊢
      have hP : va_P D vwCl ([(a169, .inl (C 0, 8, .inl ta169)), (a175, .inl (C 0, 8, .inl ta175)), (a25, .inr (12, [.ref u472_107, .int 0, .int tla25, .int u472_110])), (u472_107, .inl (C 1, u472_108, .inl u472_109))] ++ wK C ad d) H := hP
      have hD : va_D A ([(a169, .inl (C 0, 8, .inl ta169)), (a175, .inl (C 0, 8, .inl ta175)), (a25, .inr (12, [.ref u472_107, .int 0, .int tla25, .int u472_110])), (u472_107, .inl (C 1, u472_108, .inl u472_109))] ++ wK C ad d) := hD
      refine lv_iload hx hb dL_load_475 (lv_at hl 10 rfl) ?_
      have hPc := hP.sub (ws' := [(a25, .inr (12, [.ref u472_107, .int 0, .int tla25, .int u472_110])), (u472_107, .inl (C 1, u472_108, .inl u472_109))]) [2, 3] rfl
      have hDc := hD.sub (ws' := [(a25, .inr (12, [.ref u472_107, .int 0, .int tla25, .int u472_110])), (u472_107, .inl (C 1, u472_108, .inl u472_109))]) [2, 3] (by decide) rfl
      have hFc := va_free (wc := [(a25, .inr (12, [.ref u472_107, .int 0, .int tla25, .int u472_110])), (u472_107, .inl (C 1, u472_108, .inl u472_109))]) hD hS hA [2, 3] rfl
      obtain ⟨mb477, sb477, hbk, hwp⟩ := hwp
      refine va_callr (va_runV (As := [.int x10]) (rest := []) ⟨hx, hb, hml, hown, hts⟩ (met_J4_append_bf812 l hst D C a25 x10 u472_107 u472_108 u472_109 u472_110 tla25 mb477 sb477 H.size _ hwp) (cwV 1 hts gc_L_51 rfl rfl rfl (by decide +kernel) ⟨Nat.le_of_ble_eq_true rfl, Nat.le_of_ble_eq_true rfl⟩) ⟨fun a U g mk q => by obtain ⟨q0, q1, qP, qK, qD, qT⟩ := q; exact ⟨q0, q1, qP, va_K.moved (u := U) (U := U.calling g mk a) (Vm.Alike.refl U.vm) qK, qD, qT.mv (U := U.calling g mk a) (State.WarmedH.refl U)⟩, va_recv hK hPc (ci := 12) (q0 := 0) rfl rfl, fun U hU hW => ⟨rfl, by rw [hU], by rw [hU]; exact hPc, va_K.moved hW.alike hK, hDc.weaken (fun _ _ _ _ => trivial), hT.call hS hFc hU hW⟩⟩ rfl rfl hl.1 rfl (lv_room (Nat.le_of_ble_eq_true rfl)) dL_load_477 ⟨hbk.1, hbk.2⟩) hS (fun q _ h => hFc q h) hFc (fun u ra t H1 locs ht hvm hwp hB hz1 hk1 hS => ?_)
      obtain ⟨u477_111, u477_112, u477_113, u477_114⟩ := u
      obtain ⟨hra, hP1, -, hD1⟩ := hB
      have hra := hra.symm
      subst hra
      rw [ht] at hP1
      obtain ⟨hP, hD⟩ := bd_joinL (lr := [(a169, .inl (C 0, 8, .inl ta169)), (a175, .inl (C 0, 8, .inl ta175))]) (l1 := [(a25, .inr (12, [.ref u477_111, .int 0, .int tla25, .int u477_114])), (u477_111, .inl (C 1, u477_112, .inl u477_113))]) hP hD [2, 3] [0, 1] rfl rfl (by decide) (by decide) hk1 hFc hP1 hD1
      generalize H1 = H at hP hS ⊢
      have hP : va_P D vwCl ([(a169, .inl (C 0, 8, .inl ta169)), (a175, .inl (C 0, 8, .inl ta175)), (a25, .inr (12, [.ref u477_111, .int 0, .int tla25, .int u477_114])), (u477_111, .inl (C 1, u477_112, .inl u477_113))] ++ wK C ad d) H := hP
      have hD : va_D A ([(a169, .inl (C 0, 8, .inl ta169)), (a175, .inl (C 0, 8, .inl ta175)), (a25, .inr (12, [.ref u477_111, .int 0, .int tla25, .int u477_114])), (u477_111, .inl (C 1, u477_112, .inl u477_113))] ++ wK C ad d) := hD
      obtain ⟨sa480, hr_sa480, hs_sa480⟩ := hT.2.2.2.2.2.1 ("ParetoDeskLaw", 59, ";", [59]) (by decide)
      refine va_ldcS (own := RL) (tx := ";") hx hb hown hr_sa480 dL_load_480 ?_
      have hPc := hP.sub (ws' := [(a25, .inr (12, [.ref u477_111, .int 0, .int tla25, .int u477_114])), (u477_111, .inl (C 1, u477_112, .inl u477_113))]) [2, 3] rfl
      have hDc := hD.sub (ws' := [(a25, .inr (12, [.ref u477_111, .int 0, .int tla25, .int u477_114])), (u477_111, .inl (C 1, u477_112, .inl u477_113))]) [2, 3] (by decide) rfl
      have hFc := va_free (wc := [(a25, .inr (12, [.ref u477_111, .int 0, .int tla25, .int u477_114])), (u477_111, .inl (C 1, u477_112, .inl u477_113))]) hD hS hA [2, 3] rfl
      obtain ⟨mb482, sb482, hbk, hwp⟩ := hwp
      refine va_callr (va_runV (As := [.ref sa480]) (rest := []) ⟨hx, hb, hml, hown, hts⟩ (met_J4_append_15ec4 l hst D C a25 sa480 ([59]) u477_111 u477_112 u477_113 u477_114 tla25 mb482 sb482 H.size _ hwp) (cwV 1 hts gc_L_56 rfl rfl rfl (by decide +kernel) ⟨Nat.le_of_ble_eq_true rfl, Nat.le_of_ble_eq_true rfl⟩) ⟨fun a U g mk q => by obtain ⟨q0, q1, qP, qK, qD, qT, qS_q1⟩ := q; exact ⟨q0, q1, qP, va_K.moved (u := U) (U := U.calling g mk a) (Vm.Alike.refl U.vm) qK, qD, qT.mv (U := U.calling g mk a) (State.WarmedH.refl U), qS_q1.moved (U := U.calling g mk a) (Vm.Alike.refl U.vm)⟩, va_recv hK hPc (ci := 12) (q0 := 0) rfl rfl, fun U hU hW => ⟨rfl, by rw [hU], by rw [hU]; exact hPc, va_K.moved hW.alike hK, hDc.weaken (fun _ _ _ _ => trivial), hT.call hS hFc hU hW, hs_sa480.call hS hFc hU hW⟩⟩ rfl rfl hl.1 rfl (lv_room (Nat.le_of_ble_eq_true rfl)) dL_load_482 ⟨hbk.1, hbk.2⟩) hS (fun q _ h => hFc q h) hFc (fun u ra t H1 locs ht hvm hwp hB hz1 hk1 hS => ?_)
      obtain ⟨u482_115, u482_116, u482_117, u482_118⟩ := u
      obtain ⟨hra, hP1, -, hD1⟩ := hB
      have hra := hra.symm
      subst hra
      rw [ht] at hP1
      obtain ⟨hP, hD⟩ := bd_joinL (lr := [(a169, .inl (C 0, 8, .inl ta169)), (a175, .inl (C 0, 8, .inl ta175))]) (l1 := [(a25, .inr (12, [.ref u482_115, .int 0, .int tla25, .int u482_118])), (u482_115, .inl (C 1, u482_116, .inl u482_117))]) hP hD [2, 3] [0, 1] rfl rfl (by decide) (by decide) hk1 hFc hP1 hD1
      generalize H1 = H at hP hS ⊢
      have hP : va_P D vwCl ([(a169, .inl (C 0, 8, .inl ta169)), (a175, .inl (C 0, 8, .inl ta175)), (a25, .inr (12, [.ref u482_115, .int 0, .int tla25, .int u482_118])), (u482_115, .inl (C 1, u482_116, .inl u482_117))] ++ wK C ad d) H := hP
      have hD : va_D A ([(a169, .inl (C 0, 8, .inl ta169)), (a175, .inl (C 0, 8, .inl ta175)), (a25, .inr (12, [.ref u482_115, .int 0, .int tla25, .int u482_118])), (u482_115, .inl (C 1, u482_116, .inl u482_117))] ++ wK C ad d) := hD
      refine lv_pop hx hb dL_load_485 rfl ?_
      obtain ⟨hbk, hwp⟩ := hwp
      refine W.widen (k := (12 + u482_116)) (n := (140 + 2 * u482_116)) hbk.1 hbk.2 ?_
      have hl9 := lv_sub (l' := [(0, .ref (ad 0)), (1, .ref q1), (2, .int x2), (3, .int x3), (4, .ref a25), (5, .ref a169), (6, .ref a175), (7, .int x7), (8, .int x8), (9, .int x9), (10, .int x10)]) hl [0, 1, 2, 3, 4, 5, 6, 7, 8, 9, 10] rfl
      have hP9 : va_P D vwCl ([(a25, .inr (12, [.ref u482_115, .int 0, .int tla25, .int u482_118])), (u482_115, .inl (C 1, u482_116, .inl u482_117)), (a169, .inl (C 0, 8, .inl ta169)), (a175, .inl (C 0, 8, .inl ta175))] ++ wK C ad d) H := bd_P (lc := [(a25, .inr (12, [.ref u482_115, .int 0, .int tla25, .int u482_118])), (u482_115, .inl (C 1, u482_116, .inl u482_117)), (a169, .inl (C 0, 8, .inl ta169)), (a175, .inl (C 0, 8, .inl ta175))]) hP [2, 3, 0, 1] rfl
      have hD9 : va_D A ([(a25, .inr (12, [.ref u482_115, .int 0, .int tla25, .int u482_118])), (u482_115, .inl (C 1, u482_116, .inl u482_117)), (a169, .inl (C 0, 8, .inl ta169)), (a175, .inl (C 0, 8, .inl ta175))] ++ wK C ad d) := bd_D (lc := [(a25, .inr (12, [.ref u482_115, .int 0, .int tla25, .int u482_118])), (u482_115, .inl (C 1, u482_116, .inl u482_117)), (a169, .inl (C 0, 8, .inl ta169)), (a175, .inl (C 0, 8, .inl ta175))]) hD [2, 3, 0, 1] rfl (by decide)
      exact HB486 a25 a169 a175 x2 x3 x7 x8 x9 x10 d u482_115 u482_116 u482_117 u482_118 tla25 ta169 ta175 H locs ls hl9 hP9 hD9 hS hwp
  have HB438 : ∀ (a25 : Nat) (a169 : Nat) (a175 : Nat) (x2 : Int32) (x3 : Int32) (x7 : Int32) (x8 : Int32) (x9 : Int32) (z438_0 : Int32) (d : DT) (tpa25 : Nat) (tna25 : Nat) (tfa25 : Nat → Int32) (tca25 : Int32) (tla25 : Int32) (ta169 : Nat → Int32) (ta175 : Nat → Int32) (H : Heap) (locs : List Loc) (ls : Array Slot), lv_has ls 13 [(0, .ref (ad 0)), (1, .ref q1), (2, .int x2), (3, .int x3), (4, .ref a25), (5, .ref a169), (6, .ref a175), (7, .int x7), (8, .int x8), (9, .int x9)] → va_P D vwCl ([(a25, .inr (12, [.ref tpa25, .int 0, .int tla25, .int tca25])), (tpa25, .inl (C 1, tna25, .inl tfa25)), (a169, .inl (C 0, 8, .inl ta169)), (a175, .inl (C 0, 8, .inl ta175))] ++ wK C ad d) H → va_D A ([(a25, .inr (12, [.ref tpa25, .int 0, .int tla25, .int tca25])), (tpa25, .inl (C 1, tna25, .inl tfa25)), (a169, .inl (C 0, 8, .inl ta169)), (a175, .inl (C 0, 8, .inl ta175))] ++ wK C ad d) → va_S A s.heap H locs → wp_L_load_b438 sn1 sx1 Q x2 x3 x7 x8 x9 z438_0 d tpa25 tna25 tfa25 tca25 tla25 ta169 ta175 → W p l e (headSpec ws_L_load rm_L_load).room s m ([.ref (ad 0), .ref q1] : List Value).toArray below meth c H locs (12 + tna25) (140 + 2 * tna25) (MQ below (q_L_load D C ad q1 sn1 sx1 Q A) ([.ref (ad 0), .ref q1] : List Value).toArray s 3000 6000 A) (F0 m 438 ls [.int z438_0]) := by
    intro a25 a169 a175 x2 x3 x7 x8 x9 z438_0 d tpa25 tna25 tfa25 tca25 tla25 ta169 ta175 H locs ls hl hP hD hS hwp
    unfold wp_L_load_b438 at hwp
    refine lv_istore (lv' := [(10, .int z438_0), (0, .ref (ad 0)), (1, .ref q1), (2, .int x2), (3, .int x3), (4, .ref a25), (5, .ref a169), (6, .ref a175), (7, .int x7), (8, .int x8), (9, .int x9)]) hx hb dL_load_438 hl (by decide) rfl (fun ls hl => ?_)
    refine lv_iload hx hb dL_load_440 (lv_at hl 10 rfl) ?_
    refine lv_if_lt (tgt := 463) hx hb dL_load_442 (by decide) (fun c442 => ?_) (fun c442 => ?_)
    · have hwp := hwp.1 c442
      obtain ⟨hbk, hwp⟩ := hwp
      refine W.widen (k := (12 + tna25)) (n := (140 + 2 * tna25)) hbk.1 hbk.2 ?_
      have hl9 := lv_sub (l' := [(0, .ref (ad 0)), (1, .ref q1), (2, .int x2), (3, .int x3), (4, .ref a25), (5, .ref a169), (6, .ref a175), (7, .int x7), (8, .int x8), (9, .int x9), (10, .int z438_0)]) hl [1, 2, 3, 4, 5, 6, 7, 8, 9, 10, 0] rfl
      have hP9 : va_P D vwCl ([(a25, .inr (12, [.ref tpa25, .int 0, .int tla25, .int tca25])), (tpa25, .inl (C 1, tna25, .inl tfa25)), (a169, .inl (C 0, 8, .inl ta169)), (a175, .inl (C 0, 8, .inl ta175))] ++ wK C ad d) H := bd_P (lc := [(a25, .inr (12, [.ref tpa25, .int 0, .int tla25, .int tca25])), (tpa25, .inl (C 1, tna25, .inl tfa25)), (a169, .inl (C 0, 8, .inl ta169)), (a175, .inl (C 0, 8, .inl ta175))]) hP [0, 1, 2, 3] rfl
      have hD9 : va_D A ([(a25, .inr (12, [.ref tpa25, .int 0, .int tla25, .int tca25])), (tpa25, .inl (C 1, tna25, .inl tfa25)), (a169, .inl (C 0, 8, .inl ta169)), (a175, .inl (C 0, 8, .inl ta175))] ++ wK C ad d) := bd_D (lc := [(a25, .inr (12, [.ref tpa25, .int 0, .int tla25, .int tca25])), (tpa25, .inl (C 1, tna25, .inl tfa25)), (a169, .inl (C 0, 8, .inl ta169)), (a175, .inl (C 0, 8, .inl ta175))]) hD [0, 1, 2, 3] rfl (by decide)
      exact HB463 a25 a169 a175 x2 x3 x7 x8 x9 z438_0 d tpa25 tna25 tfa25 tca25 tla25 ta169 ta175 H locs ls hl9 hP9 hD9 hS hwp
    · have hwp := hwp.2 c442
      refine lv_aload hx hb dL_load_445 (lv_at hl 5 rfl) ?_
      obtain ⟨sa447, hr_sa447, hs_sa447⟩ := hT.2.2.2.2.2.1 ("ParetoDeskLaw", 73, "must ", [109, 117, 115, 116, 32]) (by decide)
      refine va_ldcS (own := RL) (tx := "must ") hx hb hown hr_sa447 dL_load_447 ?_
      have hPc := hP.sub (ws' := [(a25, .inr (12, [.ref tpa25, .int 0, .int tla25, .int tca25])), (tpa25, .inl (C 1, tna25, .inl tfa25))]) [0, 1] rfl
      have hDc := hD.sub (ws' := [(a25, .inr (12, [.ref tpa25, .int 0, .int tla25, .int tca25])), (tpa25, .inl (C 1, tna25, .inl tfa25))]) [0, 1] (by decide) rfl
      have hFc := va_free (wc := [(a25, .inr (12, [.ref tpa25, .int 0, .int tla25, .int tca25])), (tpa25, .inl (C 1, tna25, .inl tfa25))]) hD hS hA [0, 1] rfl
      obtain ⟨mb449, sb449, hbk, hwp⟩ := hwp
      refine va_callr (va_runV (As := [.ref sa447]) (rest := []) ⟨hx, hb, hml, hown, hts⟩ (met_J4_append_15ec4 l hst D C a25 sa447 ([109, 117, 115, 116, 32]) tpa25 tna25 tfa25 tca25 tla25 mb449 sb449 H.size _ hwp) (cwV 1 hts gc_L_56 rfl rfl rfl (by decide +kernel) ⟨Nat.le_of_ble_eq_true rfl, Nat.le_of_ble_eq_true rfl⟩) ⟨fun a U g mk q => by obtain ⟨q0, q1, qP, qK, qD, qT, qS_q1⟩ := q; exact ⟨q0, q1, qP, va_K.moved (u := U) (U := U.calling g mk a) (Vm.Alike.refl U.vm) qK, qD, qT.mv (U := U.calling g mk a) (State.WarmedH.refl U), qS_q1.moved (U := U.calling g mk a) (Vm.Alike.refl U.vm)⟩, va_recv hK hPc (ci := 12) (q0 := 0) rfl rfl, fun U hU hW => ⟨rfl, by rw [hU], by rw [hU]; exact hPc, va_K.moved hW.alike hK, hDc.weaken (fun _ _ _ _ => trivial), hT.call hS hFc hU hW, hs_sa447.call hS hFc hU hW⟩⟩ rfl rfl hl.1 rfl (lv_room (Nat.le_of_ble_eq_true rfl)) dL_load_449 ⟨hbk.1, hbk.2⟩) hS (fun q _ h => hFc q h) hFc (fun u ra t H1 locs ht hvm hwp hB hz1 hk1 hS => ?_)
      obtain ⟨u449_119, u449_120, u449_121, u449_122⟩ := u
      obtain ⟨hra, hP1, -, hD1⟩ := hB
      have hra := hra.symm
      subst hra
      rw [ht] at hP1
      obtain ⟨hP, hD⟩ := bd_joinL (lr := [(a169, .inl (C 0, 8, .inl ta169)), (a175, .inl (C 0, 8, .inl ta175))]) (l1 := [(a25, .inr (12, [.ref u449_119, .int 0, .int tla25, .int u449_122])), (u449_119, .inl (C 1, u449_120, .inl u449_121))]) hP hD [0, 1] [2, 3] rfl rfl (by decide) (by decide) hk1 hFc hP1 hD1
      generalize H1 = H at hP hS ⊢
      have hP : va_P D vwCl ([(a169, .inl (C 0, 8, .inl ta169)), (a175, .inl (C 0, 8, .inl ta175)), (a25, .inr (12, [.ref u449_119, .int 0, .int tla25, .int u449_122])), (u449_119, .inl (C 1, u449_120, .inl u449_121))] ++ wK C ad d) H := hP
      have hD : va_D A ([(a169, .inl (C 0, 8, .inl ta169)), (a175, .inl (C 0, 8, .inl ta175)), (a25, .inr (12, [.ref u449_119, .int 0, .int tla25, .int u449_122])), (u449_119, .inl (C 1, u449_120, .inl u449_121))] ++ wK C ad d) := hD
      refine lv_iload hx hb dL_load_452 (lv_at hl 10 rfl) ?_
      have hPc := hP.sub (ws' := [(a25, .inr (12, [.ref u449_119, .int 0, .int tla25, .int u449_122])), (u449_119, .inl (C 1, u449_120, .inl u449_121))]) [2, 3] rfl
      have hDc := hD.sub (ws' := [(a25, .inr (12, [.ref u449_119, .int 0, .int tla25, .int u449_122])), (u449_119, .inl (C 1, u449_120, .inl u449_121))]) [2, 3] (by decide) rfl
      have hFc := va_free (wc := [(a25, .inr (12, [.ref u449_119, .int 0, .int tla25, .int u449_122])), (u449_119, .inl (C 1, u449_120, .inl u449_121))]) hD hS hA [2, 3] rfl
      obtain ⟨mb454, sb454, hbk, hwp⟩ := hwp
      refine va_callr (va_runV (As := [.int x9]) (rest := []) ⟨hx, hb, hml, hown, hts⟩ (met_J4_append_bf812 l hst D C a25 x9 u449_119 u449_120 u449_121 u449_122 tla25 mb454 sb454 H.size _ hwp) (cwV 1 hts gc_L_51 rfl rfl rfl (by decide +kernel) ⟨Nat.le_of_ble_eq_true rfl, Nat.le_of_ble_eq_true rfl⟩) ⟨fun a U g mk q => by obtain ⟨q0, q1, qP, qK, qD, qT⟩ := q; exact ⟨q0, q1, qP, va_K.moved (u := U) (U := U.calling g mk a) (Vm.Alike.refl U.vm) qK, qD, qT.mv (U := U.calling g mk a) (State.WarmedH.refl U)⟩, va_recv hK hPc (ci := 12) (q0 := 0) rfl rfl, fun U hU hW => ⟨rfl, by rw [hU], by rw [hU]; exact hPc, va_K.moved hW.alike hK, hDc.weaken (fun _ _ _ _ => trivial), hT.call hS hFc hU hW⟩⟩ rfl rfl hl.1 rfl (lv_room (Nat.le_of_ble_eq_true rfl)) dL_load_454 ⟨hbk.1, hbk.2⟩) hS (fun q _ h => hFc q h) hFc (fun u ra t H1 locs ht hvm hwp hB hz1 hk1 hS => ?_)
      obtain ⟨u454_123, u454_124, u454_125, u454_126⟩ := u
      obtain ⟨hra, hP1, -, hD1⟩ := hB
      have hra := hra.symm
      subst hra
      rw [ht] at hP1
      obtain ⟨hP, hD⟩ := bd_joinL (lr := [(a169, .inl (C 0, 8, .inl ta169)), (a175, .inl (C 0, 8, .inl ta175))]) (l1 := [(a25, .inr (12, [.ref u454_123, .int 0, .int tla25, .int u454_126])), (u454_123, .inl (C 1, u454_124, .inl u454_125))]) hP hD [2, 3] [0, 1] rfl rfl (by decide) (by decide) hk1 hFc hP1 hD1
      generalize H1 = H at hP hS ⊢
      have hP : va_P D vwCl ([(a169, .inl (C 0, 8, .inl ta169)), (a175, .inl (C 0, 8, .inl ta175)), (a25, .inr (12, [.ref u454_123, .int 0, .int tla25, .int u454_126])), (u454_123, .inl (C 1, u454_124, .inl u454_125))] ++ wK C ad d) H := hP
      have hD : va_D A ([(a169, .inl (C 0, 8, .inl ta169)), (a175, .inl (C 0, 8, .inl ta175)), (a25, .inr (12, [.ref u454_123, .int 0, .int tla25, .int u454_126])), (u454_123, .inl (C 1, u454_124, .inl u454_125))] ++ wK C ad d) := hD
      obtain ⟨sa457, hr_sa457, hs_sa457⟩ := hT.2.2.2.2.2.1 ("ParetoDeskLaw", 59, ";", [59]) (by decide)
      refine va_ldcS (own := RL) (tx := ";") hx hb hown hr_sa457 dL_load_457 ?_
      have hPc := hP.sub (ws' := [(a25, .inr (12, [.ref u454_123, .int 0, .int tla25, .int u454_126])), (u454_123, .inl (C 1, u454_124, .inl u454_125))]) [2, 3] rfl
      have hDc := hD.sub (ws' := [(a25, .inr (12, [.ref u454_123, .int 0, .int tla25, .int u454_126])), (u454_123, .inl (C 1, u454_124, .inl u454_125))]) [2, 3] (by decide) rfl
      have hFc := va_free (wc := [(a25, .inr (12, [.ref u454_123, .int 0, .int tla25, .int u454_126])), (u454_123, .inl (C 1, u454_124, .inl u454_125))]) hD hS hA [2, 3] rfl
      obtain ⟨mb459, sb459, hbk, hwp⟩ := hwp
      refine va_callr (va_runV (As := [.ref sa457]) (rest := []) ⟨hx, hb, hml, hown, hts⟩ (met_J4_append_15ec4 l hst D C a25 sa457 ([59]) u454_123 u454_124 u454_125 u454_126 tla25 mb459 sb459 H.size _ hwp) (cwV 1 hts gc_L_56 rfl rfl rfl (by decide +kernel) ⟨Nat.le_of_ble_eq_true rfl, Nat.le_of_ble_eq_true rfl⟩) ⟨fun a U g mk q => by obtain ⟨q0, q1, qP, qK, qD, qT, qS_q1⟩ := q; exact ⟨q0, q1, qP, va_K.moved (u := U) (U := U.calling g mk a) (Vm.Alike.refl U.vm) qK, qD, qT.mv (U := U.calling g mk a) (State.WarmedH.refl U), qS_q1.moved (U := U.calling g mk a) (Vm.Alike.refl U.vm)⟩, va_recv hK hPc (ci := 12) (q0 := 0) rfl rfl, fun U hU hW => ⟨rfl, by rw [hU], by rw [hU]; exact hPc, va_K.moved hW.alike hK, hDc.weaken (fun _ _ _ _ => trivial), hT.call hS hFc hU hW, hs_sa457.call hS hFc hU hW⟩⟩ rfl rfl hl.1 rfl (lv_room (Nat.le_of_ble_eq_true rfl)) dL_load_459 ⟨hbk.1, hbk.2⟩) hS (fun q _ h => hFc q h) hFc (fun u ra t H1 locs ht hvm hwp hB hz1 hk1 hS => ?_)
      obtain ⟨u459_127, u459_128, u459_129, u459_130⟩ := u
      obtain ⟨hra, hP1, -, hD1⟩ := hB
      have hra := hra.symm
      subst hra
      rw [ht] at hP1
      obtain ⟨hP, hD⟩ := bd_joinL (lr := [(a169, .inl (C 0, 8, .inl ta169)), (a175, .inl (C 0, 8, .inl ta175))]) (l1 := [(a25, .inr (12, [.ref u459_127, .int 0, .int tla25, .int u459_130])), (u459_127, .inl (C 1, u459_128, .inl u459_129))]) hP hD [2, 3] [0, 1] rfl rfl (by decide) (by decide) hk1 hFc hP1 hD1
      generalize H1 = H at hP hS ⊢
      have hP : va_P D vwCl ([(a169, .inl (C 0, 8, .inl ta169)), (a175, .inl (C 0, 8, .inl ta175)), (a25, .inr (12, [.ref u459_127, .int 0, .int tla25, .int u459_130])), (u459_127, .inl (C 1, u459_128, .inl u459_129))] ++ wK C ad d) H := hP
      have hD : va_D A ([(a169, .inl (C 0, 8, .inl ta169)), (a175, .inl (C 0, 8, .inl ta175)), (a25, .inr (12, [.ref u459_127, .int 0, .int tla25, .int u459_130])), (u459_127, .inl (C 1, u459_128, .inl u459_129))] ++ wK C ad d) := hD
      refine lv_pop hx hb dL_load_462 rfl ?_
      obtain ⟨hbk, hwp⟩ := hwp
      refine W.widen (k := (12 + u459_128)) (n := (140 + 2 * u459_128)) hbk.1 hbk.2 ?_
      have hl9 := lv_sub (l' := [(0, .ref (ad 0)), (1, .ref q1), (2, .int x2), (3, .int x3), (4, .ref a25), (5, .ref a169), (6, .ref a175), (7, .int x7), (8, .int x8), (9, .int x9), (10, .int z438_0)]) hl [1, 2, 3, 4, 5, 6, 7, 8, 9, 10, 0] rfl
      have hP9 : va_P D vwCl ([(a25, .inr (12, [.ref u459_127, .int 0, .int tla25, .int u459_130])), (u459_127, .inl (C 1, u459_128, .inl u459_129)), (a169, .inl (C 0, 8, .inl ta169)), (a175, .inl (C 0, 8, .inl ta175))] ++ wK C ad d) H := bd_P (lc := [(a25, .inr (12, [.ref u459_127, .int 0, .int tla25, .int u459_130])), (u459_127, .inl (C 1, u459_128, .inl u459_129)), (a169, .inl (C 0, 8, .inl ta169)), (a175, .inl (C 0, 8, .inl ta175))]) hP [2, 3, 0, 1] rfl
      have hD9 : va_D A ([(a25, .inr (12, [.ref u459_127, .int 0, .int tla25, .int u459_130])), (u459_127, .inl (C 1, u459_128, .inl u459_129)), (a169, .inl (C 0, 8, .inl ta169)), (a175, .inl (C 0, 8, .inl ta175))] ++ wK C ad d) := bd_D (lc := [(a25, .inr (12, [.ref u459_127, .int 0, .int tla25, .int u459_130])), (u459_127, .inl (C 1, u459_128, .inl u459_129)), (a169, .inl (C 0, 8, .inl ta169)), (a175, .inl (C 0, 8, .inl ta175))]) hD [2, 3, 0, 1] rfl (by decide)
      exact HB463 a25 a169 a175 x2 x3 x7 x8 x9 z438_0 d u459_127 u459_128 u459_129 u459_130 tla25 ta169 ta175 H locs ls hl9 hP9 hD9 hS hwp
  have HB437 : ∀ (a25 : Nat) (a169 : Nat) (a175 : Nat) (x2 : Int32) (x3 : Int32) (x7 : Int32) (x8 : Int32) (x9 : Int32) (d : DT) (tpa25 : Nat) (tna25 : Nat) (tfa25 : Nat → Int32) (tca25 : Int32) (tla25 : Int32) (ta169 : Nat → Int32) (ta175 : Nat → Int32) (H : Heap) (locs : List Loc) (ls : Array Slot), lv_has ls 13 [(0, .ref (ad 0)), (1, .ref q1), (2, .int x2), (3, .int x3), (4, .ref a25), (5, .ref a169), (6, .ref a175), (7, .int x7), (8, .int x8), (9, .int x9)] → va_P D vwCl ([(a25, .inr (12, [.ref tpa25, .int 0, .int tla25, .int tca25])), (tpa25, .inl (C 1, tna25, .inl tfa25)), (a169, .inl (C 0, 8, .inl ta169)), (a175, .inl (C 0, 8, .inl ta175))] ++ wK C ad d) H → va_D A ([(a25, .inr (12, [.ref tpa25, .int 0, .int tla25, .int tca25])), (tpa25, .inl (C 1, tna25, .inl tfa25)), (a169, .inl (C 0, 8, .inl ta169)), (a175, .inl (C 0, 8, .inl ta175))] ++ wK C ad d) → va_S A s.heap H locs → wp_L_load_b437 sn1 sx1 Q x2 x3 x7 x8 x9 d tpa25 tna25 tfa25 tca25 tla25 ta169 ta175 → W p l e (headSpec ws_L_load rm_L_load).room s m ([.ref (ad 0), .ref q1] : List Value).toArray below meth c H locs (12 + tna25) (140 + 2 * tna25) (MQ below (q_L_load D C ad q1 sn1 sx1 Q A) ([.ref (ad 0), .ref q1] : List Value).toArray s 3000 6000 A) (F0 m 437 ls []) := by
    intro a25 a169 a175 x2 x3 x7 x8 x9 d tpa25 tna25 tfa25 tca25 tla25 ta169 ta175 H locs ls hl hP hD hS hwp
    unfold wp_L_load_b437 at hwp
    refine lv_iconst (v := (-1)) hx hb dL_load_437 (by decide) ?_
    obtain ⟨hbk, hwp⟩ := hwp
    refine W.widen (k := (12 + tna25)) (n := (140 + 2 * tna25)) hbk.1 hbk.2 ?_
    have hl9 := lv_sub (l' := [(0, .ref (ad 0)), (1, .ref q1), (2, .int x2), (3, .int x3), (4, .ref a25), (5, .ref a169), (6, .ref a175), (7, .int x7), (8, .int x8), (9, .int x9)]) hl [0, 1, 2, 3, 4, 5, 6, 7, 8, 9] rfl
    have hP9 : va_P D vwCl ([(a25, .inr (12, [.ref tpa25, .int 0, .int tla25, .int tca25])), (tpa25, .inl (C 1, tna25, .inl tfa25)), (a169, .inl (C 0, 8, .inl ta169)), (a175, .inl (C 0, 8, .inl ta175))] ++ wK C ad d) H := bd_P (lc := [(a25, .inr (12, [.ref tpa25, .int 0, .int tla25, .int tca25])), (tpa25, .inl (C 1, tna25, .inl tfa25)), (a169, .inl (C 0, 8, .inl ta169)), (a175, .inl (C 0, 8, .inl ta175))]) hP [0, 1, 2, 3] rfl
    have hD9 : va_D A ([(a25, .inr (12, [.ref tpa25, .int 0, .int tla25, .int tca25])), (tpa25, .inl (C 1, tna25, .inl tfa25)), (a169, .inl (C 0, 8, .inl ta169)), (a175, .inl (C 0, 8, .inl ta175))] ++ wK C ad d) := bd_D (lc := [(a25, .inr (12, [.ref tpa25, .int 0, .int tla25, .int tca25])), (tpa25, .inl (C 1, tna25, .inl tfa25)), (a169, .inl (C 0, 8, .inl ta169)), (a175, .inl (C 0, 8, .inl ta175))]) hD [0, 1, 2, 3] rfl (by decide)
    exact HB438 a25 a169 a175 x2 x3 x7 x8 x9 (-1 : Int32) d tpa25 tna25 tfa25 tca25 tla25 ta169 ta175 H locs ls hl9 hP9 hD9 hS hwp
  have HB411 : ∀ (a25 : Nat) (a169 : Nat) (a175 : Nat) (x2 : Int32) (x3 : Int32) (x7 : Int32) (x8 : Int32) (z411_0 : Int32) (d : DT) (tpa25 : Nat) (tna25 : Nat) (tfa25 : Nat → Int32) (tca25 : Int32) (tla25 : Int32) (ta169 : Nat → Int32) (ta175 : Nat → Int32) (H : Heap) (locs : List Loc) (ls : Array Slot), lv_has ls 13 [(0, .ref (ad 0)), (1, .ref q1), (2, .int x2), (3, .int x3), (4, .ref a25), (5, .ref a169), (6, .ref a175), (7, .int x7), (8, .int x8)] → va_P D vwCl ([(a25, .inr (12, [.ref tpa25, .int 0, .int tla25, .int tca25])), (tpa25, .inl (C 1, tna25, .inl tfa25)), (a169, .inl (C 0, 8, .inl ta169)), (a175, .inl (C 0, 8, .inl ta175))] ++ wK C ad d) H → va_D A ([(a25, .inr (12, [.ref tpa25, .int 0, .int tla25, .int tca25])), (tpa25, .inl (C 1, tna25, .inl tfa25)), (a169, .inl (C 0, 8, .inl ta169)), (a175, .inl (C 0, 8, .inl ta175))] ++ wK C ad d) → va_S A s.heap H locs → wp_L_load_b411 sn1 sx1 Q x2 x3 x7 x8 z411_0 d tpa25 tna25 tfa25 tca25 tla25 ta169 ta175 → W p l e (headSpec ws_L_load rm_L_load).room s m ([.ref (ad 0), .ref q1] : List Value).toArray below meth c H locs (12 + tna25) (140 + 2 * tna25) (MQ below (q_L_load D C ad q1 sn1 sx1 Q A) ([.ref (ad 0), .ref q1] : List Value).toArray s 3000 6000 A) (F0 m 411 ls [.int z411_0]) := by
    intro a25 a169 a175 x2 x3 x7 x8 z411_0 d tpa25 tna25 tfa25 tca25 tla25 ta169 ta175 H locs ls hl hP hD hS hwp
    unfold wp_L_load_b411 at hwp
    refine lv_istore (lv' := [(9, .int z411_0), (0, .ref (ad 0)), (1, .ref q1), (2, .int x2), (3, .int x3), (4, .ref a25), (5, .ref a169), (6, .ref a175), (7, .int x7), (8, .int x8)]) hx hb dL_load_411 hl (by decide) rfl (fun ls hl => ?_)
    refine lv_iload_n hx hb dL_load_413 rfl (lv_at hl 3 rfl) ?_
    refine lv_if_le (tgt := 437) hx hb dL_load_414 (by decide) (fun c414 => ?_) (fun c414 => ?_)
    · have hwp := hwp.1 c414
      obtain ⟨hbk, hwp⟩ := hwp
      refine W.widen (k := (12 + tna25)) (n := (140 + 2 * tna25)) hbk.1 hbk.2 ?_
      have hl9 := lv_sub (l' := [(0, .ref (ad 0)), (1, .ref q1), (2, .int x2), (3, .int x3), (4, .ref a25), (5, .ref a169), (6, .ref a175), (7, .int x7), (8, .int x8), (9, .int z411_0)]) hl [1, 2, 3, 4, 5, 6, 7, 8, 9, 0] rfl
      have hP9 : va_P D vwCl ([(a25, .inr (12, [.ref tpa25, .int 0, .int tla25, .int tca25])), (tpa25, .inl (C 1, tna25, .inl tfa25)), (a169, .inl (C 0, 8, .inl ta169)), (a175, .inl (C 0, 8, .inl ta175))] ++ wK C ad d) H := bd_P (lc := [(a25, .inr (12, [.ref tpa25, .int 0, .int tla25, .int tca25])), (tpa25, .inl (C 1, tna25, .inl tfa25)), (a169, .inl (C 0, 8, .inl ta169)), (a175, .inl (C 0, 8, .inl ta175))]) hP [0, 1, 2, 3] rfl
      have hD9 : va_D A ([(a25, .inr (12, [.ref tpa25, .int 0, .int tla25, .int tca25])), (tpa25, .inl (C 1, tna25, .inl tfa25)), (a169, .inl (C 0, 8, .inl ta169)), (a175, .inl (C 0, 8, .inl ta175))] ++ wK C ad d) := bd_D (lc := [(a25, .inr (12, [.ref tpa25, .int 0, .int tla25, .int tca25])), (tpa25, .inl (C 1, tna25, .inl tfa25)), (a169, .inl (C 0, 8, .inl ta169)), (a175, .inl (C 0, 8, .inl ta175))]) hD [0, 1, 2, 3] rfl (by decide)
      exact HB437 a25 a169 a175 x2 x3 x7 x8 z411_0 d tpa25 tna25 tfa25 tca25 tla25 ta169 ta175 H locs ls hl9 hP9 hD9 hS hwp
    · have hwp := hwp.2 c414
      refine lv_aload_n hx hb dL_load_417 rfl (lv_at hl 2 rfl) ?_
      refine lv_bipush (v := 8) hx hb dL_load_418 (by decide) ?_
      refine lv_iconst (v := 5) hx hb dL_load_420 (by decide) ?_
      have hPc := hP.sub (ws' := []) [] rfl
      have hDc := hD.sub (ws' := []) [] (by decide) rfl
      have hFc := va_free (wc := []) hD hS hA [] rfl
      obtain ⟨hbk, hwp⟩ := hwp
      refine va_calli (va_runS (As := [.ref q1, .int (8 : Int32), .int (5 : Int32)]) (rest := []) ⟨hx, hb, hml, hown, hts⟩ (met_L_draw l hst D C q1 (8 : Int32) (5 : Int32) sn1 sx1 H.size _ hwp) (va_cwS 3 hts gc_L_40 rfl rfl rfl (by decide +kernel) ⟨Nat.le_of_ble_eq_true rfl, Nat.le_of_ble_eq_true rfl⟩) ⟨fun a U g mk q => by obtain ⟨q0, q1, qP, qK, qD, qT, qS_q0⟩ := q; exact ⟨q0, q1, qP, va_K.moved (u := U) (U := U.calling g mk a) (Vm.Alike.refl U.vm) qK, qD, qT.mv (U := U.calling g mk a) (State.WarmedH.refl U), qS_q0.moved (U := U.calling g mk a) (Vm.Alike.refl U.vm)⟩, fun U hU hW => ⟨rfl, by rw [hU], by rw [hU]; exact hPc, va_K.moved hW.alike hK, hDc.weaken (fun _ _ _ _ => trivial), hT.call hS hFc hU hW, hs_q1.call hS hFc hU hW⟩⟩ rfl rfl hl.1 rfl (lv_room (Nat.le_of_ble_eq_true rfl)) dL_load_421 ⟨hbk.1, hbk.2⟩) hS (fun q _ h => hFc q h) hFc (fun r421 u t H1 locs ht hvm hwp hB hz1 hk1 hS => ?_)
      obtain ⟨hP1, -, hD1⟩ := hB
      rw [ht] at hP1
      obtain ⟨hP, hD⟩ := bd_joinL (lr := [(a25, .inr (12, [.ref tpa25, .int 0, .int tla25, .int tca25])), (tpa25, .inl (C 1, tna25, .inl tfa25)), (a169, .inl (C 0, 8, .inl ta169)), (a175, .inl (C 0, 8, .inl ta175))]) (l1 := []) hP hD [] [0, 1, 2, 3] rfl rfl (by decide) (by decide) hk1 hFc hP1 hD1
      generalize H1 = H at hP hS ⊢
      have hP : va_P D vwCl ([(a25, .inr (12, [.ref tpa25, .int 0, .int tla25, .int tca25])), (tpa25, .inl (C 1, tna25, .inl tfa25)), (a169, .inl (C 0, 8, .inl ta169)), (a175, .inl (C 0, 8, .inl ta175))] ++ wK C ad d) H := hP
      have hD : va_D A ([(a25, .inr (12, [.ref tpa25, .int 0, .int tla25, .int tca25])), (tpa25, .inl (C 1, tna25, .inl tfa25)), (a169, .inl (C 0, 8, .inl ta169)), (a175, .inl (C 0, 8, .inl ta175))] ++ wK C ad d) := hD
      refine lv_if_ne (tgt := 437) hx hb dL_load_424 (by decide) (fun c424 => ?_) (fun c424 => ?_)
      · have hwp := hwp.1 c424
        obtain ⟨hbk, hwp⟩ := hwp
        refine W.widen (k := (12 + tna25)) (n := (140 + 2 * tna25)) hbk.1 hbk.2 ?_
        have hl9 := lv_sub (l' := [(0, .ref (ad 0)), (1, .ref q1), (2, .int x2), (3, .int x3), (4, .ref a25), (5, .ref a169), (6, .ref a175), (7, .int x7), (8, .int x8), (9, .int z411_0)]) hl [1, 2, 3, 4, 5, 6, 7, 8, 9, 0] rfl
        have hP9 : va_P D vwCl ([(a25, .inr (12, [.ref tpa25, .int 0, .int tla25, .int tca25])), (tpa25, .inl (C 1, tna25, .inl tfa25)), (a169, .inl (C 0, 8, .inl ta169)), (a175, .inl (C 0, 8, .inl ta175))] ++ wK C ad d) H := bd_P (lc := [(a25, .inr (12, [.ref tpa25, .int 0, .int tla25, .int tca25])), (tpa25, .inl (C 1, tna25, .inl tfa25)), (a169, .inl (C 0, 8, .inl ta169)), (a175, .inl (C 0, 8, .inl ta175))]) hP [0, 1, 2, 3] rfl
        have hD9 : va_D A ([(a25, .inr (12, [.ref tpa25, .int 0, .int tla25, .int tca25])), (tpa25, .inl (C 1, tna25, .inl tfa25)), (a169, .inl (C 0, 8, .inl ta169)), (a175, .inl (C 0, 8, .inl ta175))] ++ wK C ad d) := bd_D (lc := [(a25, .inr (12, [.ref tpa25, .int 0, .int tla25, .int tca25])), (tpa25, .inl (C 1, tna25, .inl tfa25)), (a169, .inl (C 0, 8, .inl ta169)), (a175, .inl (C 0, 8, .inl ta175))]) hD [0, 1, 2, 3] rfl (by decide)
        exact HB437 a25 a169 a175 x2 x3 x7 x8 z411_0 d tpa25 tna25 tfa25 tca25 tla25 ta169 ta175 H locs ls hl9 hP9 hD9 hS hwp
      · have hwp := hwp.2 c424
        refine lv_aload_n hx hb dL_load_427 rfl (lv_at hl 2 rfl) ?_
        refine lv_bipush (v := 9) hx hb dL_load_428 (by decide) ?_
        refine lv_iload_n hx hb dL_load_430 rfl (lv_at hl 3 rfl) ?_
        have hPc := hP.sub (ws' := []) [] rfl
        have hDc := hD.sub (ws' := []) [] (by decide) rfl
        have hFc := va_free (wc := []) hD hS hA [] rfl
        obtain ⟨hbk, hwp⟩ := hwp
        refine va_calli (va_runS (As := [.ref q1, .int (9 : Int32), .int x2]) (rest := []) ⟨hx, hb, hml, hown, hts⟩ (met_L_draw l hst D C q1 (9 : Int32) x2 sn1 sx1 H.size _ hwp) (va_cwS 3 hts gc_L_40 rfl rfl rfl (by decide +kernel) ⟨Nat.le_of_ble_eq_true rfl, Nat.le_of_ble_eq_true rfl⟩) ⟨fun a U g mk q => by obtain ⟨q0, q1, qP, qK, qD, qT, qS_q0⟩ := q; exact ⟨q0, q1, qP, va_K.moved (u := U) (U := U.calling g mk a) (Vm.Alike.refl U.vm) qK, qD, qT.mv (U := U.calling g mk a) (State.WarmedH.refl U), qS_q0.moved (U := U.calling g mk a) (Vm.Alike.refl U.vm)⟩, fun U hU hW => ⟨rfl, by rw [hU], by rw [hU]; exact hPc, va_K.moved hW.alike hK, hDc.weaken (fun _ _ _ _ => trivial), hT.call hS hFc hU hW, hs_q1.call hS hFc hU hW⟩⟩ rfl rfl hl.1 rfl (lv_room (Nat.le_of_ble_eq_true rfl)) dL_load_431 ⟨hbk.1, hbk.2⟩) hS (fun q _ h => hFc q h) hFc (fun r431 u t H1 locs ht hvm hwp hB hz1 hk1 hS => ?_)
        obtain ⟨hP1, -, hD1⟩ := hB
        rw [ht] at hP1
        obtain ⟨hP, hD⟩ := bd_joinL (lr := [(a25, .inr (12, [.ref tpa25, .int 0, .int tla25, .int tca25])), (tpa25, .inl (C 1, tna25, .inl tfa25)), (a169, .inl (C 0, 8, .inl ta169)), (a175, .inl (C 0, 8, .inl ta175))]) (l1 := []) hP hD [] [0, 1, 2, 3] rfl rfl (by decide) (by decide) hk1 hFc hP1 hD1
        generalize H1 = H at hP hS ⊢
        have hP : va_P D vwCl ([(a25, .inr (12, [.ref tpa25, .int 0, .int tla25, .int tca25])), (tpa25, .inl (C 1, tna25, .inl tfa25)), (a169, .inl (C 0, 8, .inl ta169)), (a175, .inl (C 0, 8, .inl ta175))] ++ wK C ad d) H := hP
        have hD : va_D A ([(a25, .inr (12, [.ref tpa25, .int 0, .int tla25, .int tca25])), (tpa25, .inl (C 1, tna25, .inl tfa25)), (a169, .inl (C 0, 8, .inl ta169)), (a175, .inl (C 0, 8, .inl ta175))] ++ wK C ad d) := hD
        refine lv_goto (tgt := 438) hx hb dL_load_434 (by decide) ?_
        obtain ⟨hbk, hwp⟩ := hwp
        refine W.widen (k := (12 + tna25)) (n := (140 + 2 * tna25)) hbk.1 hbk.2 ?_
        have hl9 := lv_sub (l' := [(0, .ref (ad 0)), (1, .ref q1), (2, .int x2), (3, .int x3), (4, .ref a25), (5, .ref a169), (6, .ref a175), (7, .int x7), (8, .int x8), (9, .int z411_0)]) hl [1, 2, 3, 4, 5, 6, 7, 8, 9, 0] rfl
        have hP9 : va_P D vwCl ([(a25, .inr (12, [.ref tpa25, .int 0, .int tla25, .int tca25])), (tpa25, .inl (C 1, tna25, .inl tfa25)), (a169, .inl (C 0, 8, .inl ta169)), (a175, .inl (C 0, 8, .inl ta175))] ++ wK C ad d) H := bd_P (lc := [(a25, .inr (12, [.ref tpa25, .int 0, .int tla25, .int tca25])), (tpa25, .inl (C 1, tna25, .inl tfa25)), (a169, .inl (C 0, 8, .inl ta169)), (a175, .inl (C 0, 8, .inl ta175))]) hP [0, 1, 2, 3] rfl
        have hD9 : va_D A ([(a25, .inr (12, [.ref tpa25, .int 0, .int tla25, .int tca25])), (tpa25, .inl (C 1, tna25, .inl tfa25)), (a169, .inl (C 0, 8, .inl ta169)), (a175, .inl (C 0, 8, .inl ta175))] ++ wK C ad d) := bd_D (lc := [(a25, .inr (12, [.ref tpa25, .int 0, .int tla25, .int tca25])), (tpa25, .inl (C 1, tna25, .inl tfa25)), (a169, .inl (C 0, 8, .inl ta169)), (a175, .inl (C 0, 8, .inl ta175))]) hD [0, 1, 2, 3] rfl (by decide)
        exact HB438 a25 a169 a175 x2 x3 x7 x8 z411_0 r431 d tpa25 tna25 tfa25 tca25 tla25 ta169 ta175 H locs ls hl9 hP9 hD9 hS hwp
  have HB410 : ∀ (a25 : Nat) (a169 : Nat) (a175 : Nat) (x2 : Int32) (x3 : Int32) (x7 : Int32) (x8 : Int32) (d : DT) (tpa25 : Nat) (tna25 : Nat) (tfa25 : Nat → Int32) (tca25 : Int32) (tla25 : Int32) (ta169 : Nat → Int32) (ta175 : Nat → Int32) (H : Heap) (locs : List Loc) (ls : Array Slot), lv_has ls 13 [(0, .ref (ad 0)), (1, .ref q1), (2, .int x2), (3, .int x3), (4, .ref a25), (5, .ref a169), (6, .ref a175), (7, .int x7), (8, .int x8)] → va_P D vwCl ([(a25, .inr (12, [.ref tpa25, .int 0, .int tla25, .int tca25])), (tpa25, .inl (C 1, tna25, .inl tfa25)), (a169, .inl (C 0, 8, .inl ta169)), (a175, .inl (C 0, 8, .inl ta175))] ++ wK C ad d) H → va_D A ([(a25, .inr (12, [.ref tpa25, .int 0, .int tla25, .int tca25])), (tpa25, .inl (C 1, tna25, .inl tfa25)), (a169, .inl (C 0, 8, .inl ta169)), (a175, .inl (C 0, 8, .inl ta175))] ++ wK C ad d) → va_S A s.heap H locs → wp_L_load_b410 sn1 sx1 Q x2 x3 x7 x8 d tpa25 tna25 tfa25 tca25 tla25 ta169 ta175 → W p l e (headSpec ws_L_load rm_L_load).room s m ([.ref (ad 0), .ref q1] : List Value).toArray below meth c H locs (12 + tna25) (140 + 2 * tna25) (MQ below (q_L_load D C ad q1 sn1 sx1 Q A) ([.ref (ad 0), .ref q1] : List Value).toArray s 3000 6000 A) (F0 m 410 ls []) := by
    intro a25 a169 a175 x2 x3 x7 x8 d tpa25 tna25 tfa25 tca25 tla25 ta169 ta175 H locs ls hl hP hD hS hwp
    unfold wp_L_load_b410 at hwp
    refine lv_iconst (v := (-1)) hx hb dL_load_410 (by decide) ?_
    obtain ⟨hbk, hwp⟩ := hwp
    refine W.widen (k := (12 + tna25)) (n := (140 + 2 * tna25)) hbk.1 hbk.2 ?_
    have hl9 := lv_sub (l' := [(0, .ref (ad 0)), (1, .ref q1), (2, .int x2), (3, .int x3), (4, .ref a25), (5, .ref a169), (6, .ref a175), (7, .int x7), (8, .int x8)]) hl [0, 1, 2, 3, 4, 5, 6, 7, 8] rfl
    have hP9 : va_P D vwCl ([(a25, .inr (12, [.ref tpa25, .int 0, .int tla25, .int tca25])), (tpa25, .inl (C 1, tna25, .inl tfa25)), (a169, .inl (C 0, 8, .inl ta169)), (a175, .inl (C 0, 8, .inl ta175))] ++ wK C ad d) H := bd_P (lc := [(a25, .inr (12, [.ref tpa25, .int 0, .int tla25, .int tca25])), (tpa25, .inl (C 1, tna25, .inl tfa25)), (a169, .inl (C 0, 8, .inl ta169)), (a175, .inl (C 0, 8, .inl ta175))]) hP [0, 1, 2, 3] rfl
    have hD9 : va_D A ([(a25, .inr (12, [.ref tpa25, .int 0, .int tla25, .int tca25])), (tpa25, .inl (C 1, tna25, .inl tfa25)), (a169, .inl (C 0, 8, .inl ta169)), (a175, .inl (C 0, 8, .inl ta175))] ++ wK C ad d) := bd_D (lc := [(a25, .inr (12, [.ref tpa25, .int 0, .int tla25, .int tca25])), (tpa25, .inl (C 1, tna25, .inl tfa25)), (a169, .inl (C 0, 8, .inl ta169)), (a175, .inl (C 0, 8, .inl ta175))]) hD [0, 1, 2, 3] rfl (by decide)
    exact HB411 a25 a169 a175 x2 x3 x7 x8 (-1 : Int32) d tpa25 tna25 tfa25 tca25 tla25 ta169 ta175 H locs ls hl9 hP9 hD9 hS hwp
  have HB74 : ∀ (a25 : Nat) (x2 : Int32) (x3 : Int32) (z74_1 : Int32) (d : DT) (tpa25 : Nat) (tna25 : Nat) (tfa25 : Nat → Int32) (tca25 : Int32) (tla25 : Int32) (H : Heap) (locs : List Loc) (ls : Array Slot), lv_has ls 13 [(0, .ref (ad 0)), (1, .ref q1), (2, .int x2), (3, .int x3)] → va_P D vwCl ([(a25, .inr (12, [.ref tpa25, .int 0, .int tla25, .int tca25])), (tpa25, .inl (C 1, tna25, .inl tfa25))] ++ wK C ad d) H → va_D A ([(a25, .inr (12, [.ref tpa25, .int 0, .int tla25, .int tca25])), (tpa25, .inl (C 1, tna25, .inl tfa25))] ++ wK C ad d) → va_S A s.heap H locs → wp_L_load_b74 sn1 sx1 Q x2 x3 z74_1 d tpa25 tna25 tfa25 tca25 tla25 → W p l e (headSpec ws_L_load rm_L_load).room s m ([.ref (ad 0), .ref q1] : List Value).toArray below meth c H locs (8 + tna25) (100 + 2 * tna25) (MQ below (q_L_load D C ad q1 sn1 sx1 Q A) ([.ref (ad 0), .ref q1] : List Value).toArray s 3000 6000 A) (F0 m 74 ls [.int z74_1, .ref a25]) := by
    intro a25 x2 x3 z74_1 d tpa25 tna25 tfa25 tca25 tla25 H locs ls hl hP hD hS hwp
    unfold wp_L_load_b74 at hwp
    have hPc := hP.sub (ws' := [(a25, .inr (12, [.ref tpa25, .int 0, .int tla25, .int tca25])), (tpa25, .inl (C 1, tna25, .inl tfa25))]) [0, 1] rfl
    have hDc := hD.sub (ws' := [(a25, .inr (12, [.ref tpa25, .int 0, .int tla25, .int tca25])), (tpa25, .inl (C 1, tna25, .inl tfa25))]) [0, 1] (by decide) rfl
    have hFc := va_free (wc := [(a25, .inr (12, [.ref tpa25, .int 0, .int tla25, .int tca25])), (tpa25, .inl (C 1, tna25, .inl tfa25))]) hD hS hA [0, 1] rfl
    obtain ⟨mb74, sb74, hbk, hwp⟩ := hwp
    refine va_callr (va_runV (As := [.int z74_1]) (rest := []) ⟨hx, hb, hml, hown, hts⟩ (met_J4_append_bf812 l hst D C a25 z74_1 tpa25 tna25 tfa25 tca25 tla25 mb74 sb74 H.size _ hwp) (cwV 1 hts gc_L_51 rfl rfl rfl (by decide +kernel) ⟨Nat.le_of_ble_eq_true rfl, Nat.le_of_ble_eq_true rfl⟩) ⟨fun a U g mk q => by obtain ⟨q0, q1, qP, qK, qD, qT⟩ := q; exact ⟨q0, q1, qP, va_K.moved (u := U) (U := U.calling g mk a) (Vm.Alike.refl U.vm) qK, qD, qT.mv (U := U.calling g mk a) (State.WarmedH.refl U)⟩, va_recv hK hPc (ci := 12) (q0 := 0) rfl rfl, fun U hU hW => ⟨rfl, by rw [hU], by rw [hU]; exact hPc, va_K.moved hW.alike hK, hDc.weaken (fun _ _ _ _ => trivial), hT.call hS hFc hU hW⟩⟩ rfl rfl hl.1 rfl (lv_room (Nat.le_of_ble_eq_true rfl)) dL_load_74 ⟨hbk.1, hbk.2⟩) hS (fun q _ h => hFc q h) hFc (fun u ra t H1 locs ht hvm hwp hB hz1 hk1 hS => ?_)
    obtain ⟨u74_14, u74_15, u74_16, u74_17⟩ := u
    obtain ⟨hra, hP1, -, hD1⟩ := hB
    have hra := hra.symm
    subst hra
    rw [ht] at hP1
    obtain ⟨hP, hD⟩ := bd_joinL (lr := []) (l1 := [(a25, .inr (12, [.ref u74_14, .int 0, .int tla25, .int u74_17])), (u74_14, .inl (C 1, u74_15, .inl u74_16))]) hP hD [0, 1] [] rfl rfl (by decide) (by decide) hk1 hFc hP1 hD1
    generalize H1 = H at hP hS ⊢
    have hP : va_P D vwCl ([(a25, .inr (12, [.ref u74_14, .int 0, .int tla25, .int u74_17])), (u74_14, .inl (C 1, u74_15, .inl u74_16))] ++ wK C ad d) H := hP
    have hD : va_D A ([(a25, .inr (12, [.ref u74_14, .int 0, .int tla25, .int u74_17])), (u74_14, .inl (C 1, u74_15, .inl u74_16))] ++ wK C ad d) := hD
    obtain ⟨sa77, hr_sa77, hs_sa77⟩ := hT.2.2.2.2.2.1 ("ParetoDeskLaw", 59, ";", [59]) (by decide)
    refine va_ldcS (own := RL) (tx := ";") hx hb hown hr_sa77 dL_load_77 ?_
    have hPc := hP.sub (ws' := [(a25, .inr (12, [.ref u74_14, .int 0, .int tla25, .int u74_17])), (u74_14, .inl (C 1, u74_15, .inl u74_16))]) [0, 1] rfl
    have hDc := hD.sub (ws' := [(a25, .inr (12, [.ref u74_14, .int 0, .int tla25, .int u74_17])), (u74_14, .inl (C 1, u74_15, .inl u74_16))]) [0, 1] (by decide) rfl
    have hFc := va_free (wc := [(a25, .inr (12, [.ref u74_14, .int 0, .int tla25, .int u74_17])), (u74_14, .inl (C 1, u74_15, .inl u74_16))]) hD hS hA [0, 1] rfl
    obtain ⟨mb79, sb79, hbk, hwp⟩ := hwp
    refine va_callr (va_runV (As := [.ref sa77]) (rest := []) ⟨hx, hb, hml, hown, hts⟩ (met_J4_append_15ec4 l hst D C a25 sa77 ([59]) u74_14 u74_15 u74_16 u74_17 tla25 mb79 sb79 H.size _ hwp) (cwV 1 hts gc_L_56 rfl rfl rfl (by decide +kernel) ⟨Nat.le_of_ble_eq_true rfl, Nat.le_of_ble_eq_true rfl⟩) ⟨fun a U g mk q => by obtain ⟨q0, q1, qP, qK, qD, qT, qS_q1⟩ := q; exact ⟨q0, q1, qP, va_K.moved (u := U) (U := U.calling g mk a) (Vm.Alike.refl U.vm) qK, qD, qT.mv (U := U.calling g mk a) (State.WarmedH.refl U), qS_q1.moved (U := U.calling g mk a) (Vm.Alike.refl U.vm)⟩, va_recv hK hPc (ci := 12) (q0 := 0) rfl rfl, fun U hU hW => ⟨rfl, by rw [hU], by rw [hU]; exact hPc, va_K.moved hW.alike hK, hDc.weaken (fun _ _ _ _ => trivial), hT.call hS hFc hU hW, hs_sa77.call hS hFc hU hW⟩⟩ rfl rfl hl.1 rfl (lv_room (Nat.le_of_ble_eq_true rfl)) dL_load_79 ⟨hbk.1, hbk.2⟩) hS (fun q _ h => hFc q h) hFc (fun u ra t H1 locs ht hvm hwp hB hz1 hk1 hS => ?_)
    obtain ⟨u79_18, u79_19, u79_20, u79_21⟩ := u
    obtain ⟨hra, hP1, -, hD1⟩ := hB
    have hra := hra.symm
    subst hra
    rw [ht] at hP1
    obtain ⟨hP, hD⟩ := bd_joinL (lr := []) (l1 := [(a25, .inr (12, [.ref u79_18, .int 0, .int tla25, .int u79_21])), (u79_18, .inl (C 1, u79_19, .inl u79_20))]) hP hD [0, 1] [] rfl rfl (by decide) (by decide) hk1 hFc hP1 hD1
    generalize H1 = H at hP hS ⊢
    have hP : va_P D vwCl ([(a25, .inr (12, [.ref u79_18, .int 0, .int tla25, .int u79_21])), (u79_18, .inl (C 1, u79_19, .inl u79_20))] ++ wK C ad d) H := hP
    have hD : va_D A ([(a25, .inr (12, [.ref u79_18, .int 0, .int tla25, .int u79_21])), (u79_18, .inl (C 1, u79_19, .inl u79_20))] ++ wK C ad d) := hD
    refine lv_astore (lv' := [(4, .ref a25), (0, .ref (ad 0)), (1, .ref q1), (2, .int x2), (3, .int x3)]) hx hb dL_load_82 hl (by decide) rfl (fun ls hl => ?_)
    refine lv_iconst (v := 0) hx hb dL_load_84 (by decide) ?_
    refine lv_istore (lv' := [(5, .int (0 : Int32)), (4, .ref a25), (0, .ref (ad 0)), (1, .ref q1), (2, .int x2), (3, .int x3)]) hx hb dL_load_85 hl (by decide) rfl (fun ls hl => ?_)
    obtain ⟨hbk, hwp⟩ := hwp
    refine W.widen (k := (8 + u79_19)) (n := (100 + 2 * u79_19)) hbk.1 hbk.2 ?_
    have hl9 := lv_sub (l' := [(0, .ref (ad 0)), (1, .ref q1), (2, .int x2), (3, .int x3), (4, .ref a25), (5, .int (0 : Int32))]) hl [2, 3, 4, 5, 1, 0] rfl
    have hP9 : va_P D vwCl ([(a25, .inr (12, [.ref u79_18, .int 0, .int tla25, .int u79_21])), (u79_18, .inl (C 1, u79_19, .inl u79_20))] ++ wK C ad d) H := bd_P (lc := [(a25, .inr (12, [.ref u79_18, .int 0, .int tla25, .int u79_21])), (u79_18, .inl (C 1, u79_19, .inl u79_20))]) hP [0, 1] rfl
    have hD9 : va_D A ([(a25, .inr (12, [.ref u79_18, .int 0, .int tla25, .int u79_21])), (u79_18, .inl (C 1, u79_19, .inl u79_20))] ++ wK C ad d) := bd_D (lc := [(a25, .inr (12, [.ref u79_18, .int 0, .int tla25, .int u79_21])), (u79_18, .inl (C 1, u79_19, .inl u79_20))]) hD [0, 1] rfl (by decide)
    obtain ⟨nn9, hwp⟩ := hwp
    refine HL87 a25 x2 x3 d tla25 _ (fun tpa25 tna25 tfa25 tca25 H locs ls hl hP hD hS hwp => ?_) nn9 (0 : Int32) u79_18 u79_19 u79_20 u79_21 H locs ls hl9 hP9 hD9 hS hwp
    refine lv_bipush (v := 8) hx hb dL_load_167 (by decide) ?_
    obtain ⟨hbk, hwp⟩ := hwp
    refine va_newa (atype := .int) (N' := 8) (a0 := (8, .inl (fun _ => 0))) hx hb (hts (.arrayClass .int) wd_146) rfl hK hP hD hS hA (fun cA => rfl) (by decide) (by decide) (Nat.le_of_ble_eq_true rfl) hbk.1 hbk.2 dL_load_169 (fun a169 cA H hK1 hP hD hS => ?_)
    obtain rfl : cA = C 0 := Option.some.inj ((hK1.2 4 _ rfl).2.symm.trans (hK.2 0 _ rfl).2)
    clear hK1
    have hP := bd_mvP hP
    have hD := bd_mvD hD
    have hP : va_P D vwCl ([(a25, .inr (12, [.ref tpa25, .int 0, .int tla25, .int tca25])), (tpa25, .inl (C 1, tna25, .inl tfa25)), (a169, .inl (C 0, 8, .inl (fun _ => 0)))] ++ wK C ad d) H := hP
    have hD : va_D A ([(a25, .inr (12, [.ref tpa25, .int 0, .int tla25, .int tca25])), (tpa25, .inl (C 1, tna25, .inl tfa25)), (a169, .inl (C 0, 8, .inl (fun _ => 0)))] ++ wK C ad d) := hD
    refine lv_astore (lv' := [(5, .ref a169), (0, .ref (ad 0)), (1, .ref q1), (2, .int x2), (3, .int x3), (4, .ref a25)]) hx hb dL_load_171 hl (by decide) rfl (fun ls hl => ?_)
    refine lv_bipush (v := 8) hx hb dL_load_173 (by decide) ?_
    obtain ⟨hbk, hwp⟩ := hwp
    refine va_newa (atype := .int) (N' := 8) (a0 := (8, .inl (fun _ => 0))) hx hb (hts (.arrayClass .int) wd_146) rfl hK hP hD hS hA (fun cA => rfl) (by decide) (by decide) (Nat.le_of_ble_eq_true rfl) hbk.1 hbk.2 dL_load_175 (fun a175 cA H hK1 hP hD hS => ?_)
    obtain rfl : cA = C 0 := Option.some.inj ((hK1.2 4 _ rfl).2.symm.trans (hK.2 0 _ rfl).2)
    clear hK1
    have hP := bd_mvP hP
    have hD := bd_mvD hD
    have hP : va_P D vwCl ([(a25, .inr (12, [.ref tpa25, .int 0, .int tla25, .int tca25])), (tpa25, .inl (C 1, tna25, .inl tfa25)), (a169, .inl (C 0, 8, .inl (fun _ => 0))), (a175, .inl (C 0, 8, .inl (fun _ => 0)))] ++ wK C ad d) H := hP
    have hD : va_D A ([(a25, .inr (12, [.ref tpa25, .int 0, .int tla25, .int tca25])), (tpa25, .inl (C 1, tna25, .inl tfa25)), (a169, .inl (C 0, 8, .inl (fun _ => 0))), (a175, .inl (C 0, 8, .inl (fun _ => 0)))] ++ wK C ad d) := hD
    refine lv_astore (lv' := [(6, .ref a175), (5, .ref a169), (0, .ref (ad 0)), (1, .ref q1), (2, .int x2), (3, .int x3), (4, .ref a25)]) hx hb dL_load_177 hl (by decide) rfl (fun ls hl => ?_)
    refine lv_iconst (v := 0) hx hb dL_load_179 (by decide) ?_
    refine lv_istore (lv' := [(7, .int (0 : Int32)), (6, .ref a175), (5, .ref a169), (0, .ref (ad 0)), (1, .ref q1), (2, .int x2), (3, .int x3), (4, .ref a25)]) hx hb dL_load_180 hl (by decide) rfl (fun ls hl => ?_)
    refine lv_iconst (v := 0) hx hb dL_load_182 (by decide) ?_
    refine lv_istore (lv' := [(8, .int (0 : Int32)), (7, .int (0 : Int32)), (6, .ref a175), (5, .ref a169), (0, .ref (ad 0)), (1, .ref q1), (2, .int x2), (3, .int x3), (4, .ref a25)]) hx hb dL_load_183 hl (by decide) rfl (fun ls hl => ?_)
    refine lv_iconst (v := 0) hx hb dL_load_185 (by decide) ?_
    refine lv_istore (lv' := [(9, .int (0 : Int32)), (8, .int (0 : Int32)), (7, .int (0 : Int32)), (6, .ref a175), (5, .ref a169), (0, .ref (ad 0)), (1, .ref q1), (2, .int x2), (3, .int x3), (4, .ref a25)]) hx hb dL_load_186 hl (by decide) rfl (fun ls hl => ?_)
    obtain ⟨hbk, hwp⟩ := hwp
    refine W.widen (k := (12 + tna25)) (n := (140 + 2 * tna25)) hbk.1 hbk.2 ?_
    have hl9 := lv_sub (l' := [(0, .ref (ad 0)), (1, .ref q1), (2, .int x2), (3, .int x3), (4, .ref a25), (5, .ref a169), (6, .ref a175), (7, .int (0 : Int32)), (8, .int (0 : Int32)), (9, .int (0 : Int32))]) hl [5, 6, 7, 8, 9, 4, 3, 2, 1, 0] rfl
    have hP9 : va_P D vwCl ([(a25, .inr (12, [.ref tpa25, .int 0, .int tla25, .int tca25])), (tpa25, .inl (C 1, tna25, .inl tfa25)), (a169, .inl (C 0, 8, .inl (fun _ => 0))), (a175, .inl (C 0, 8, .inl (fun _ => 0)))] ++ wK C ad d) H := bd_P (lc := [(a25, .inr (12, [.ref tpa25, .int 0, .int tla25, .int tca25])), (tpa25, .inl (C 1, tna25, .inl tfa25)), (a169, .inl (C 0, 8, .inl (fun _ => 0))), (a175, .inl (C 0, 8, .inl (fun _ => 0)))]) hP [0, 1, 2, 3] rfl
    have hD9 : va_D A ([(a25, .inr (12, [.ref tpa25, .int 0, .int tla25, .int tca25])), (tpa25, .inl (C 1, tna25, .inl tfa25)), (a169, .inl (C 0, 8, .inl (fun _ => 0))), (a175, .inl (C 0, 8, .inl (fun _ => 0)))] ++ wK C ad d) := bd_D (lc := [(a25, .inr (12, [.ref tpa25, .int 0, .int tla25, .int tca25])), (tpa25, .inl (C 1, tna25, .inl tfa25)), (a169, .inl (C 0, 8, .inl (fun _ => 0))), (a175, .inl (C 0, 8, .inl (fun _ => 0)))]) hD [0, 1, 2, 3] rfl (by decide)
    obtain ⟨nn9, hwp⟩ := hwp
    refine HL188 a25 a169 a175 x2 x3 d tla25 _ (fun x7 x8 tpa25 tna25 tfa25 tca25 ta169 ta175 H locs ls hl hP hD hS hwp => ?_) nn9 (0 : Int32) (0 : Int32) (0 : Int32) tpa25 tna25 tfa25 tca25 (fun _ => 0) (fun _ => 0) H locs ls hl9 hP9 hD9 hS hwp
    refine lv_iload_n hx hb dL_load_386 rfl (lv_at hl 2 rfl) ?_
    refine lv_if_le (tgt := 410) hx hb dL_load_387 (by decide) (fun c387 => ?_) (fun c387 => ?_)
    · have hwp := hwp.1 c387
      obtain ⟨hbk, hwp⟩ := hwp
      refine W.widen (k := (12 + tna25)) (n := (140 + 2 * tna25)) hbk.1 hbk.2 ?_
      have hl9 := lv_sub (l' := [(0, .ref (ad 0)), (1, .ref q1), (2, .int x2), (3, .int x3), (4, .ref a25), (5, .ref a169), (6, .ref a175), (7, .int x7), (8, .int x8)]) hl [0, 1, 2, 3, 4, 5, 6, 7, 8] rfl
      have hP9 : va_P D vwCl ([(a25, .inr (12, [.ref tpa25, .int 0, .int tla25, .int tca25])), (tpa25, .inl (C 1, tna25, .inl tfa25)), (a169, .inl (C 0, 8, .inl ta169)), (a175, .inl (C 0, 8, .inl ta175))] ++ wK C ad d) H := bd_P (lc := [(a25, .inr (12, [.ref tpa25, .int 0, .int tla25, .int tca25])), (tpa25, .inl (C 1, tna25, .inl tfa25)), (a169, .inl (C 0, 8, .inl ta169)), (a175, .inl (C 0, 8, .inl ta175))]) hP [0, 1, 2, 3] rfl
      have hD9 : va_D A ([(a25, .inr (12, [.ref tpa25, .int 0, .int tla25, .int tca25])), (tpa25, .inl (C 1, tna25, .inl tfa25)), (a169, .inl (C 0, 8, .inl ta169)), (a175, .inl (C 0, 8, .inl ta175))] ++ wK C ad d) := bd_D (lc := [(a25, .inr (12, [.ref tpa25, .int 0, .int tla25, .int tca25])), (tpa25, .inl (C 1, tna25, .inl tfa25)), (a169, .inl (C 0, 8, .inl ta169)), (a175, .inl (C 0, 8, .inl ta175))]) hD [0, 1, 2, 3] rfl (by decide)
      exact HB410 a25 a169 a175 x2 x3 x7 x8 d tpa25 tna25 tfa25 tca25 tla25 ta169 ta175 H locs ls hl9 hP9 hD9 hS hwp
    · have hwp := hwp.2 c387
      refine lv_aload_n hx hb dL_load_390 rfl (lv_at hl 1 rfl) ?_
      refine lv_bipush (v := 6) hx hb dL_load_391 (by decide) ?_
      refine lv_iconst (v := 5) hx hb dL_load_393 (by decide) ?_
      have hPc := hP.sub (ws' := []) [] rfl
      have hDc := hD.sub (ws' := []) [] (by decide) rfl
      have hFc := va_free (wc := []) hD hS hA [] rfl
      obtain ⟨hbk, hwp⟩ := hwp
      refine va_calli (va_runS (As := [.ref q1, .int (6 : Int32), .int (5 : Int32)]) (rest := []) ⟨hx, hb, hml, hown, hts⟩ (met_L_draw l hst D C q1 (6 : Int32) (5 : Int32) sn1 sx1 H.size _ hwp) (va_cwS 3 hts gc_L_40 rfl rfl rfl (by decide +kernel) ⟨Nat.le_of_ble_eq_true rfl, Nat.le_of_ble_eq_true rfl⟩) ⟨fun a U g mk q => by obtain ⟨q0, q1, qP, qK, qD, qT, qS_q0⟩ := q; exact ⟨q0, q1, qP, va_K.moved (u := U) (U := U.calling g mk a) (Vm.Alike.refl U.vm) qK, qD, qT.mv (U := U.calling g mk a) (State.WarmedH.refl U), qS_q0.moved (U := U.calling g mk a) (Vm.Alike.refl U.vm)⟩, fun U hU hW => ⟨rfl, by rw [hU], by rw [hU]; exact hPc, va_K.moved hW.alike hK, hDc.weaken (fun _ _ _ _ => trivial), hT.call hS hFc hU hW, hs_q1.call hS hFc hU hW⟩⟩ rfl rfl hl.1 rfl (lv_room (Nat.le_of_ble_eq_true rfl)) dL_load_394 ⟨hbk.1, hbk.2⟩) hS (fun q _ h => hFc q h) hFc (fun r394 u t H1 locs ht hvm hwp hB hz1 hk1 hS => ?_)
      obtain ⟨hP1, -, hD1⟩ := hB
      rw [ht] at hP1
      obtain ⟨hP, hD⟩ := bd_joinL (lr := [(a25, .inr (12, [.ref tpa25, .int 0, .int tla25, .int tca25])), (tpa25, .inl (C 1, tna25, .inl tfa25)), (a169, .inl (C 0, 8, .inl ta169)), (a175, .inl (C 0, 8, .inl ta175))]) (l1 := []) hP hD [] [0, 1, 2, 3] rfl rfl (by decide) (by decide) hk1 hFc hP1 hD1
      generalize H1 = H at hP hS ⊢
      have hP : va_P D vwCl ([(a25, .inr (12, [.ref tpa25, .int 0, .int tla25, .int tca25])), (tpa25, .inl (C 1, tna25, .inl tfa25)), (a169, .inl (C 0, 8, .inl ta169)), (a175, .inl (C 0, 8, .inl ta175))] ++ wK C ad d) H := hP
      have hD : va_D A ([(a25, .inr (12, [.ref tpa25, .int 0, .int tla25, .int tca25])), (tpa25, .inl (C 1, tna25, .inl tfa25)), (a169, .inl (C 0, 8, .inl ta169)), (a175, .inl (C 0, 8, .inl ta175))] ++ wK C ad d) := hD
      refine lv_if_ne (tgt := 410) hx hb dL_load_397 (by decide) (fun c397 => ?_) (fun c397 => ?_)
      · have hwp := hwp.1 c397
        obtain ⟨hbk, hwp⟩ := hwp
        refine W.widen (k := (12 + tna25)) (n := (140 + 2 * tna25)) hbk.1 hbk.2 ?_
        have hl9 := lv_sub (l' := [(0, .ref (ad 0)), (1, .ref q1), (2, .int x2), (3, .int x3), (4, .ref a25), (5, .ref a169), (6, .ref a175), (7, .int x7), (8, .int x8)]) hl [0, 1, 2, 3, 4, 5, 6, 7, 8] rfl
        have hP9 : va_P D vwCl ([(a25, .inr (12, [.ref tpa25, .int 0, .int tla25, .int tca25])), (tpa25, .inl (C 1, tna25, .inl tfa25)), (a169, .inl (C 0, 8, .inl ta169)), (a175, .inl (C 0, 8, .inl ta175))] ++ wK C ad d) H := bd_P (lc := [(a25, .inr (12, [.ref tpa25, .int 0, .int tla25, .int tca25])), (tpa25, .inl (C 1, tna25, .inl tfa25)), (a169, .inl (C 0, 8, .inl ta169)), (a175, .inl (C 0, 8, .inl ta175))]) hP [0, 1, 2, 3] rfl
        have hD9 : va_D A ([(a25, .inr (12, [.ref tpa25, .int 0, .int tla25, .int tca25])), (tpa25, .inl (C 1, tna25, .inl tfa25)), (a169, .inl (C 0, 8, .inl ta169)), (a175, .inl (C 0, 8, .inl ta175))] ++ wK C ad d) := bd_D (lc := [(a25, .inr (12, [.ref tpa25, .int 0, .int tla25, .int tca25])), (tpa25, .inl (C 1, tna25, .inl tfa25)), (a169, .inl (C 0, 8, .inl ta169)), (a175, .inl (C 0, 8, .inl ta175))]) hD [0, 1, 2, 3] rfl (by decide)
        exact HB410 a25 a169 a175 x2 x3 x7 x8 d tpa25 tna25 tfa25 tca25 tla25 ta169 ta175 H locs ls hl9 hP9 hD9 hS hwp
      · have hwp := hwp.2 c397
        refine lv_aload_n hx hb dL_load_400 rfl (lv_at hl 1 rfl) ?_
        refine lv_bipush (v := 7) hx hb dL_load_401 (by decide) ?_
        refine lv_iload_n hx hb dL_load_403 rfl (lv_at hl 2 rfl) ?_
        have hPc := hP.sub (ws' := []) [] rfl
        have hDc := hD.sub (ws' := []) [] (by decide) rfl
        have hFc := va_free (wc := []) hD hS hA [] rfl
        obtain ⟨hbk, hwp⟩ := hwp
        refine va_calli (va_runS (As := [.ref q1, .int (7 : Int32), .int x2]) (rest := []) ⟨hx, hb, hml, hown, hts⟩ (met_L_draw l hst D C q1 (7 : Int32) x2 sn1 sx1 H.size _ hwp) (va_cwS 3 hts gc_L_40 rfl rfl rfl (by decide +kernel) ⟨Nat.le_of_ble_eq_true rfl, Nat.le_of_ble_eq_true rfl⟩) ⟨fun a U g mk q => by obtain ⟨q0, q1, qP, qK, qD, qT, qS_q0⟩ := q; exact ⟨q0, q1, qP, va_K.moved (u := U) (U := U.calling g mk a) (Vm.Alike.refl U.vm) qK, qD, qT.mv (U := U.calling g mk a) (State.WarmedH.refl U), qS_q0.moved (U := U.calling g mk a) (Vm.Alike.refl U.vm)⟩, fun U hU hW => ⟨rfl, by rw [hU], by rw [hU]; exact hPc, va_K.moved hW.alike hK, hDc.weaken (fun _ _ _ _ => trivial), hT.call hS hFc hU hW, hs_q1.call hS hFc hU hW⟩⟩ rfl rfl hl.1 rfl (lv_room (Nat.le_of_ble_eq_true rfl)) dL_load_404 ⟨hbk.1, hbk.2⟩) hS (fun q _ h => hFc q h) hFc (fun r404 u t H1 locs ht hvm hwp hB hz1 hk1 hS => ?_)
        obtain ⟨hP1, -, hD1⟩ := hB
        rw [ht] at hP1
        obtain ⟨hP, hD⟩ := bd_joinL (lr := [(a25, .inr (12, [.ref tpa25, .int 0, .int tla25, .int tca25])), (tpa25, .inl (C 1, tna25, .inl tfa25)), (a169, .inl (C 0, 8, .inl ta169)), (a175, .inl (C 0, 8, .inl ta175))]) (l1 := []) hP hD [] [0, 1, 2, 3] rfl rfl (by decide) (by decide) hk1 hFc hP1 hD1
        generalize H1 = H at hP hS ⊢
        have hP : va_P D vwCl ([(a25, .inr (12, [.ref tpa25, .int 0, .int tla25, .int tca25])), (tpa25, .inl (C 1, tna25, .inl tfa25)), (a169, .inl (C 0, 8, .inl ta169)), (a175, .inl (C 0, 8, .inl ta175))] ++ wK C ad d) H := hP
        have hD : va_D A ([(a25, .inr (12, [.ref tpa25, .int 0, .int tla25, .int tca25])), (tpa25, .inl (C 1, tna25, .inl tfa25)), (a169, .inl (C 0, 8, .inl ta169)), (a175, .inl (C 0, 8, .inl ta175))] ++ wK C ad d) := hD
        refine lv_goto (tgt := 411) hx hb dL_load_407 (by decide) ?_
        obtain ⟨hbk, hwp⟩ := hwp
        refine W.widen (k := (12 + tna25)) (n := (140 + 2 * tna25)) hbk.1 hbk.2 ?_
        have hl9 := lv_sub (l' := [(0, .ref (ad 0)), (1, .ref q1), (2, .int x2), (3, .int x3), (4, .ref a25), (5, .ref a169), (6, .ref a175), (7, .int x7), (8, .int x8)]) hl [0, 1, 2, 3, 4, 5, 6, 7, 8] rfl
        have hP9 : va_P D vwCl ([(a25, .inr (12, [.ref tpa25, .int 0, .int tla25, .int tca25])), (tpa25, .inl (C 1, tna25, .inl tfa25)), (a169, .inl (C 0, 8, .inl ta169)), (a175, .inl (C 0, 8, .inl ta175))] ++ wK C ad d) H := bd_P (lc := [(a25, .inr (12, [.ref tpa25, .int 0, .int tla25, .int tca25])), (tpa25, .inl (C 1, tna25, .inl tfa25)), (a169, .inl (C 0, 8, .inl ta169)), (a175, .inl (C 0, 8, .inl ta175))]) hP [0, 1, 2, 3] rfl
        have hD9 : va_D A ([(a25, .inr (12, [.ref tpa25, .int 0, .int tla25, .int tca25])), (tpa25, .inl (C 1, tna25, .inl tfa25)), (a169, .inl (C 0, 8, .inl ta169)), (a175, .inl (C 0, 8, .inl ta175))] ++ wK C ad d) := bd_D (lc := [(a25, .inr (12, [.ref tpa25, .int 0, .int tla25, .int tca25])), (tpa25, .inl (C 1, tna25, .inl tfa25)), (a169, .inl (C 0, 8, .inl ta169)), (a175, .inl (C 0, 8, .inl ta175))]) hD [0, 1, 2, 3] rfl (by decide)
        exact HB411 a25 a169 a175 x2 x3 x7 x8 r404 d tpa25 tna25 tfa25 tca25 tla25 ta169 ta175 H locs ls hl9 hP9 hD9 hS hwp
  have HB24 : ∀  (x2 : Int32) (z24_0 : Int32) (d : DT) (H : Heap) (locs : List Loc) (ls : Array Slot), lv_has ls 13 [(0, .ref (ad 0)), (1, .ref q1), (2, .int x2)] → va_P D vwCl ([] ++ wK C ad d) H → va_D A ([] ++ wK C ad d) → va_S A s.heap H locs → wp_L_load_b24 sn1 sx1 Q x2 z24_0 d → W p l e (headSpec ws_L_load rm_L_load).room s m ([.ref (ad 0), .ref q1] : List Value).toArray below meth c H locs 0 0 (MQ below (q_L_load D C ad q1 sn1 sx1 Q A) ([.ref (ad 0), .ref q1] : List Value).toArray s 3000 6000 A) (F0 m 24 ls [.int z24_0]) := by
    intro x2 z24_0 d H locs ls hl hP hD hS hwp
    unfold wp_L_load_b24 at hwp
    refine lv_istore_n (lv' := [(3, .int z24_0), (0, .ref (ad 0)), (1, .ref q1), (2, .int x2)]) hx hb dL_load_24 rfl hl (by decide) rfl (fun ls hl => ?_)
    obtain ⟨hbk, hwp⟩ := hwp
    refine va_new (ci := 12) (fs := [.null, .int 0, .int 0, .int 0]) (C := RJ4) (T := TJ4) (N := 4) hx hb hts iwJ4 tyJ4 tyJ4_ok hown (hts (.classLink RL 44 RJ4) wd_569) (hts (.instantiable RJ4 4) wd_570) (hts (.initialized RJ4) wd_47) hK hP hD hS hA rfl (fun j hj => by rcases (show j = 0 ∨ j = 1 ∨ j = 2 ∨ j = 3 by omega) with rfl | rfl | rfl | rfl <;> rfl) hbk.1 hbk.2 dL_load_25 (fun a25 H hP hD hS => ?_)
    have hP := bd_mvP hP
    have hD := bd_mvD hD
    have hP : va_P D vwCl ([(a25, .inr (12, [.null, .int 0, .int 0, .int 0]))] ++ wK C ad d) H := hP
    have hD : va_D A ([(a25, .inr (12, [.null, .int 0, .int 0, .int 0]))] ++ wK C ad d) := hD
    refine lv_dup hx hb dL_load_28 rfl ?_
    obtain ⟨sa29, hr_sa29, hs_sa29⟩ := hT.2.2.2.2.2.1 ("ParetoDeskLaw", 46, "capacity ", [99, 97, 112, 97, 99, 105, 116, 121, 32]) (by decide)
    refine va_ldcS (own := RL) (tx := "capacity ") hx hb hown hr_sa29 dL_load_29 ?_
    have hPc := hP.sub (ws' := [(a25, .inr (12, [.null, .int 0, .int 0, .int 0]))]) [0] rfl
    have hDc := hD.sub (ws' := [(a25, .inr (12, [.null, .int 0, .int 0, .int 0]))]) [0] (by decide) rfl
    have hFc := va_free (wc := [(a25, .inr (12, [.null, .int 0, .int 0, .int 0]))]) hD hS hA [0] rfl
    obtain ⟨mb31, sb31, hbk, hwp⟩ := hwp
    refine va_callv (va_runI (As := [.ref sa29]) (rest := [.ref a25]) ⟨hx, hb, hml, hown, hts⟩ (met_J4_init_a7421 l hst D C a25 sa29 ([99, 97, 112, 97, 99, 105, 116, 121, 32]) mb31 sb31 H.size _ hwp) (cwI 1 hts gc_J4_init_a7421 rfl rfl rfl (hts (.initialized RJ4) wd_47) (hts (.methodLink RL 48 yJ4_init_a7421) wd_572) (hts (.instanceMethod yJ4_init_a7421) wd_573) rfl (by decide +kernel) ⟨Nat.le_of_ble_eq_true rfl, Nat.le_of_ble_eq_true rfl⟩) ⟨fun a U g mk q => by obtain ⟨q0, q1, qP, qK, qD, qT, qS_q1⟩ := q; exact ⟨q0, q1, qP, va_K.moved (u := U) (U := U.calling g mk a) (Vm.Alike.refl U.vm) qK, qD, qT.mv (U := U.calling g mk a) (State.WarmedH.refl U), qS_q1.moved (U := U.calling g mk a) (Vm.Alike.refl U.vm)⟩, fun U hU hW => ⟨rfl, by rw [hU], by rw [hU]; exact hPc, va_K.moved hW.alike hK, hDc.weaken (fun _ _ _ _ => trivial), hT.call hS hFc hU hW, hs_sa29.call hS hFc hU hW⟩⟩ rfl rfl hl.1 rfl (lv_room (Nat.le_of_ble_eq_true rfl)) dL_load_31 ⟨hbk.1, hbk.2⟩) hS (fun q _ h => hFc q h) hFc (fun u t H1 locs ht hvm hwp hB hz1 hk1 hS => ?_)
    obtain ⟨u31_1, u31_2, u31_3, u31_4, u31_5⟩ := u
    obtain ⟨hP1, -, hD1⟩ := hB
    rw [ht] at hP1
    obtain ⟨hP, hD⟩ := bd_joinL (lr := []) (l1 := [(a25, .inr (12, [.ref u31_1, .int 0, .int u31_5, .int u31_4])), (u31_1, .inl (C 1, u31_2, .inl u31_3))]) hP hD [0] [] rfl rfl (by decide) (by decide) hk1 hFc hP1 hD1
    generalize H1 = H at hP hS ⊢
    have hP : va_P D vwCl ([(a25, .inr (12, [.ref u31_1, .int 0, .int u31_5, .int u31_4])), (u31_1, .inl (C 1, u31_2, .inl u31_3))] ++ wK C ad d) H := hP
    have hD : va_D A ([(a25, .inr (12, [.ref u31_1, .int 0, .int u31_5, .int u31_4])), (u31_1, .inl (C 1, u31_2, .inl u31_3))] ++ wK C ad d) := hD
    refine lv_aload_n hx hb dL_load_34 rfl (lv_at hl 2 rfl) ?_
    refine lv_iconst (v := 2) hx hb dL_load_35 (by decide) ?_
    refine lv_iload_n hx hb dL_load_36 rfl (lv_at hl 3 rfl) ?_
    refine lv_iload_n hx hb dL_load_37 rfl (lv_at hl 0 rfl) ?_
    refine lv_imul hx hb dL_load_38 ?_
    refine lv_bipush (v := 20) hx hb dL_load_39 (by decide) ?_
    refine lv_iadd hx hb dL_load_41 ?_
    have hPc := hP.sub (ws' := []) [] rfl
    have hDc := hD.sub (ws' := []) [] (by decide) rfl
    have hFc := va_free (wc := []) hD hS hA [] rfl
    obtain ⟨hbk, hwp⟩ := hwp
    refine va_calli (va_runS (As := [.ref q1, .int (2 : Int32), .int ((x2 * z24_0) + (20 : Int32))]) (rest := [.ref a25]) ⟨hx, hb, hml, hown, hts⟩ (met_L_draw l hst D C q1 (2 : Int32) ((x2 * z24_0) + (20 : Int32)) sn1 sx1 H.size _ hwp) (va_cwS 3 hts gc_L_40 rfl rfl rfl (by decide +kernel) ⟨Nat.le_of_ble_eq_true rfl, Nat.le_of_ble_eq_true rfl⟩) ⟨fun a U g mk q => by obtain ⟨q0, q1, qP, qK, qD, qT, qS_q0⟩ := q; exact ⟨q0, q1, qP, va_K.moved (u := U) (U := U.calling g mk a) (Vm.Alike.refl U.vm) qK, qD, qT.mv (U := U.calling g mk a) (State.WarmedH.refl U), qS_q0.moved (U := U.calling g mk a) (Vm.Alike.refl U.vm)⟩, fun U hU hW => ⟨rfl, by rw [hU], by rw [hU]; exact hPc, va_K.moved hW.alike hK, hDc.weaken (fun _ _ _ _ => trivial), hT.call hS hFc hU hW, hs_q1.call hS hFc hU hW⟩⟩ rfl rfl hl.1 rfl (lv_room (Nat.le_of_ble_eq_true rfl)) dL_load_42 ⟨hbk.1, hbk.2⟩) hS (fun q _ h => hFc q h) hFc (fun r42 u t H1 locs ht hvm hwp hB hz1 hk1 hS => ?_)
    obtain ⟨hP1, -, hD1⟩ := hB
    rw [ht] at hP1
    obtain ⟨hP, hD⟩ := bd_joinL (lr := [(a25, .inr (12, [.ref u31_1, .int 0, .int u31_5, .int u31_4])), (u31_1, .inl (C 1, u31_2, .inl u31_3))]) (l1 := []) hP hD [] [0, 1] rfl rfl (by decide) (by decide) hk1 hFc hP1 hD1
    generalize H1 = H at hP hS ⊢
    have hP : va_P D vwCl ([(a25, .inr (12, [.ref u31_1, .int 0, .int u31_5, .int u31_4])), (u31_1, .inl (C 1, u31_2, .inl u31_3))] ++ wK C ad d) H := hP
    have hD : va_D A ([(a25, .inr (12, [.ref u31_1, .int 0, .int u31_5, .int u31_4])), (u31_1, .inl (C 1, u31_2, .inl u31_3))] ++ wK C ad d) := hD
    have hPc := hP.sub (ws' := [(a25, .inr (12, [.ref u31_1, .int 0, .int u31_5, .int u31_4])), (u31_1, .inl (C 1, u31_2, .inl u31_3))]) [0, 1] rfl
    have hDc := hD.sub (ws' := [(a25, .inr (12, [.ref u31_1, .int 0, .int u31_5, .int u31_4])), (u31_1, .inl (C 1, u31_2, .inl u31_3))]) [0, 1] (by decide) rfl
    have hFc := va_free (wc := [(a25, .inr (12, [.ref u31_1, .int 0, .int u31_5, .int u31_4])), (u31_1, .inl (C 1, u31_2, .inl u31_3))]) hD hS hA [0, 1] rfl
    obtain ⟨mb45, sb45, hbk, hwp⟩ := hwp
    refine va_callr (va_runV (As := [.int r42]) (rest := []) ⟨hx, hb, hml, hown, hts⟩ (met_J4_append_bf812 l hst D C a25 r42 u31_1 u31_2 u31_3 u31_4 u31_5 mb45 sb45 H.size _ hwp) (cwV 1 hts gc_L_51 rfl rfl rfl (by decide +kernel) ⟨Nat.le_of_ble_eq_true rfl, Nat.le_of_ble_eq_true rfl⟩) ⟨fun a U g mk q => by obtain ⟨q0, q1, qP, qK, qD, qT⟩ := q; exact ⟨q0, q1, qP, va_K.moved (u := U) (U := U.calling g mk a) (Vm.Alike.refl U.vm) qK, qD, qT.mv (U := U.calling g mk a) (State.WarmedH.refl U)⟩, va_recv hK hPc (ci := 12) (q0 := 0) rfl rfl, fun U hU hW => ⟨rfl, by rw [hU], by rw [hU]; exact hPc, va_K.moved hW.alike hK, hDc.weaken (fun _ _ _ _ => trivial), hT.call hS hFc hU hW⟩⟩ rfl rfl hl.1 rfl (lv_room (Nat.le_of_ble_eq_true rfl)) dL_load_45 ⟨hbk.1, hbk.2⟩) hS (fun q _ h => hFc q h) hFc (fun u ra t H1 locs ht hvm hwp hB hz1 hk1 hS => ?_)
    obtain ⟨u45_6, u45_7, u45_8, u45_9⟩ := u
    obtain ⟨hra, hP1, -, hD1⟩ := hB
    have hra := hra.symm
    subst hra
    rw [ht] at hP1
    obtain ⟨hP, hD⟩ := bd_joinL (lr := []) (l1 := [(a25, .inr (12, [.ref u45_6, .int 0, .int u31_5, .int u45_9])), (u45_6, .inl (C 1, u45_7, .inl u45_8))]) hP hD [0, 1] [] rfl rfl (by decide) (by decide) hk1 hFc hP1 hD1
    generalize H1 = H at hP hS ⊢
    have hP : va_P D vwCl ([(a25, .inr (12, [.ref u45_6, .int 0, .int u31_5, .int u45_9])), (u45_6, .inl (C 1, u45_7, .inl u45_8))] ++ wK C ad d) H := hP
    have hD : va_D A ([(a25, .inr (12, [.ref u45_6, .int 0, .int u31_5, .int u45_9])), (u45_6, .inl (C 1, u45_7, .inl u45_8))] ++ wK C ad d) := hD
    obtain ⟨sa48, hr_sa48, hs_sa48⟩ := hT.2.2.2.2.2.1 ("ParetoDeskLaw", 54, " limit ", [32, 108, 105, 109, 105, 116, 32]) (by decide)
    refine va_ldcS (own := RL) (tx := " limit ") hx hb hown hr_sa48 dL_load_48 ?_
    have hPc := hP.sub (ws' := [(a25, .inr (12, [.ref u45_6, .int 0, .int u31_5, .int u45_9])), (u45_6, .inl (C 1, u45_7, .inl u45_8))]) [0, 1] rfl
    have hDc := hD.sub (ws' := [(a25, .inr (12, [.ref u45_6, .int 0, .int u31_5, .int u45_9])), (u45_6, .inl (C 1, u45_7, .inl u45_8))]) [0, 1] (by decide) rfl
    have hFc := va_free (wc := [(a25, .inr (12, [.ref u45_6, .int 0, .int u31_5, .int u45_9])), (u45_6, .inl (C 1, u45_7, .inl u45_8))]) hD hS hA [0, 1] rfl
    obtain ⟨mb50, sb50, hbk, hwp⟩ := hwp
    refine va_callr (va_runV (As := [.ref sa48]) (rest := []) ⟨hx, hb, hml, hown, hts⟩ (met_J4_append_15ec4 l hst D C a25 sa48 ([32, 108, 105, 109, 105, 116, 32]) u45_6 u45_7 u45_8 u45_9 u31_5 mb50 sb50 H.size _ hwp) (cwV 1 hts gc_L_56 rfl rfl rfl (by decide +kernel) ⟨Nat.le_of_ble_eq_true rfl, Nat.le_of_ble_eq_true rfl⟩) ⟨fun a U g mk q => by obtain ⟨q0, q1, qP, qK, qD, qT, qS_q1⟩ := q; exact ⟨q0, q1, qP, va_K.moved (u := U) (U := U.calling g mk a) (Vm.Alike.refl U.vm) qK, qD, qT.mv (U := U.calling g mk a) (State.WarmedH.refl U), qS_q1.moved (U := U.calling g mk a) (Vm.Alike.refl U.vm)⟩, va_recv hK hPc (ci := 12) (q0 := 0) rfl rfl, fun U hU hW => ⟨rfl, by rw [hU], by rw [hU]; exact hPc, va_K.moved hW.alike hK, hDc.weaken (fun _ _ _ _ => trivial), hT.call hS hFc hU hW, hs_sa48.call hS hFc hU hW⟩⟩ rfl rfl hl.1 rfl (lv_room (Nat.le_of_ble_eq_true rfl)) dL_load_50 ⟨hbk.1, hbk.2⟩) hS (fun q _ h => hFc q h) hFc (fun u ra t H1 locs ht hvm hwp hB hz1 hk1 hS => ?_)
    obtain ⟨u50_10, u50_11, u50_12, u50_13⟩ := u
    obtain ⟨hra, hP1, -, hD1⟩ := hB
    have hra := hra.symm
    subst hra
    rw [ht] at hP1
    obtain ⟨hP, hD⟩ := bd_joinL (lr := []) (l1 := [(a25, .inr (12, [.ref u50_10, .int 0, .int u31_5, .int u50_13])), (u50_10, .inl (C 1, u50_11, .inl u50_12))]) hP hD [0, 1] [] rfl rfl (by decide) (by decide) hk1 hFc hP1 hD1
    generalize H1 = H at hP hS ⊢
    have hP : va_P D vwCl ([(a25, .inr (12, [.ref u50_10, .int 0, .int u31_5, .int u50_13])), (u50_10, .inl (C 1, u50_11, .inl u50_12))] ++ wK C ad d) H := hP
    have hD : va_D A ([(a25, .inr (12, [.ref u50_10, .int 0, .int u31_5, .int u50_13])), (u50_10, .inl (C 1, u50_11, .inl u50_12))] ++ wK C ad d) := hD
    refine lv_aload_n hx hb dL_load_53 rfl (lv_at hl 2 rfl) ?_
    refine lv_iconst (v := 3) hx hb dL_load_54 (by decide) ?_
    refine lv_iconst (v := 2) hx hb dL_load_55 (by decide) ?_
    have hPc := hP.sub (ws' := []) [] rfl
    have hDc := hD.sub (ws' := []) [] (by decide) rfl
    have hFc := va_free (wc := []) hD hS hA [] rfl
    obtain ⟨hbk, hwp⟩ := hwp
    refine va_calli (va_runS (As := [.ref q1, .int (3 : Int32), .int (2 : Int32)]) (rest := [.ref a25]) ⟨hx, hb, hml, hown, hts⟩ (met_L_draw l hst D C q1 (3 : Int32) (2 : Int32) sn1 sx1 H.size _ hwp) (va_cwS 3 hts gc_L_40 rfl rfl rfl (by decide +kernel) ⟨Nat.le_of_ble_eq_true rfl, Nat.le_of_ble_eq_true rfl⟩) ⟨fun a U g mk q => by obtain ⟨q0, q1, qP, qK, qD, qT, qS_q0⟩ := q; exact ⟨q0, q1, qP, va_K.moved (u := U) (U := U.calling g mk a) (Vm.Alike.refl U.vm) qK, qD, qT.mv (U := U.calling g mk a) (State.WarmedH.refl U), qS_q0.moved (U := U.calling g mk a) (Vm.Alike.refl U.vm)⟩, fun U hU hW => ⟨rfl, by rw [hU], by rw [hU]; exact hPc, va_K.moved hW.alike hK, hDc.weaken (fun _ _ _ _ => trivial), hT.call hS hFc hU hW, hs_q1.call hS hFc hU hW⟩⟩ rfl rfl hl.1 rfl (lv_room (Nat.le_of_ble_eq_true rfl)) dL_load_56 ⟨hbk.1, hbk.2⟩) hS (fun q _ h => hFc q h) hFc (fun r56 u t H1 locs ht hvm hwp hB hz1 hk1 hS => ?_)
    obtain ⟨hP1, -, hD1⟩ := hB
    rw [ht] at hP1
    obtain ⟨hP, hD⟩ := bd_joinL (lr := [(a25, .inr (12, [.ref u50_10, .int 0, .int u31_5, .int u50_13])), (u50_10, .inl (C 1, u50_11, .inl u50_12))]) (l1 := []) hP hD [] [0, 1] rfl rfl (by decide) (by decide) hk1 hFc hP1 hD1
    generalize H1 = H at hP hS ⊢
    have hP : va_P D vwCl ([(a25, .inr (12, [.ref u50_10, .int 0, .int u31_5, .int u50_13])), (u50_10, .inl (C 1, u50_11, .inl u50_12))] ++ wK C ad d) H := hP
    have hD : va_D A ([(a25, .inr (12, [.ref u50_10, .int 0, .int u31_5, .int u50_13])), (u50_10, .inl (C 1, u50_11, .inl u50_12))] ++ wK C ad d) := hD
    refine lv_if_ne (tgt := 67) hx hb dL_load_59 (by decide) (fun c59 => ?_) (fun c59 => ?_)
    · have hwp := hwp.1 c59
      refine lv_aload_n hx hb dL_load_67 rfl (lv_at hl 2 rfl) ?_
      refine lv_iconst (v := 4) hx hb dL_load_68 (by decide) ?_
      refine lv_bipush (v := 8) hx hb dL_load_69 (by decide) ?_
      have hPc := hP.sub (ws' := []) [] rfl
      have hDc := hD.sub (ws' := []) [] (by decide) rfl
      have hFc := va_free (wc := []) hD hS hA [] rfl
      obtain ⟨hbk, hwp⟩ := hwp
      refine va_calli (va_runS (As := [.ref q1, .int (4 : Int32), .int (8 : Int32)]) (rest := [.ref a25]) ⟨hx, hb, hml, hown, hts⟩ (met_L_draw l hst D C q1 (4 : Int32) (8 : Int32) sn1 sx1 H.size _ hwp) (va_cwS 3 hts gc_L_40 rfl rfl rfl (by decide +kernel) ⟨Nat.le_of_ble_eq_true rfl, Nat.le_of_ble_eq_true rfl⟩) ⟨fun a U g mk q => by obtain ⟨q0, q1, qP, qK, qD, qT, qS_q0⟩ := q; exact ⟨q0, q1, qP, va_K.moved (u := U) (U := U.calling g mk a) (Vm.Alike.refl U.vm) qK, qD, qT.mv (U := U.calling g mk a) (State.WarmedH.refl U), qS_q0.moved (U := U.calling g mk a) (Vm.Alike.refl U.vm)⟩, fun U hU hW => ⟨rfl, by rw [hU], by rw [hU]; exact hPc, va_K.moved hW.alike hK, hDc.weaken (fun _ _ _ _ => trivial), hT.call hS hFc hU hW, hs_q1.call hS hFc hU hW⟩⟩ rfl rfl hl.1 rfl (lv_room (Nat.le_of_ble_eq_true rfl)) dL_load_71 ⟨hbk.1, hbk.2⟩) hS (fun q _ h => hFc q h) hFc (fun r71 u t H1 locs ht hvm hwp hB hz1 hk1 hS => ?_)
      obtain ⟨hP1, -, hD1⟩ := hB
      rw [ht] at hP1
      obtain ⟨hP, hD⟩ := bd_joinL (lr := [(a25, .inr (12, [.ref u50_10, .int 0, .int u31_5, .int u50_13])), (u50_10, .inl (C 1, u50_11, .inl u50_12))]) (l1 := []) hP hD [] [0, 1] rfl rfl (by decide) (by decide) hk1 hFc hP1 hD1
      generalize H1 = H at hP hS ⊢
      have hP : va_P D vwCl ([(a25, .inr (12, [.ref u50_10, .int 0, .int u31_5, .int u50_13])), (u50_10, .inl (C 1, u50_11, .inl u50_12))] ++ wK C ad d) H := hP
      have hD : va_D A ([(a25, .inr (12, [.ref u50_10, .int 0, .int u31_5, .int u50_13])), (u50_10, .inl (C 1, u50_11, .inl u50_12))] ++ wK C ad d) := hD
      obtain ⟨hbk, hwp⟩ := hwp
      refine W.widen (k := (8 + u50_11)) (n := (100 + 2 * u50_11)) hbk.1 hbk.2 ?_
      have hl9 := lv_sub (l' := [(0, .ref (ad 0)), (1, .ref q1), (2, .int x2), (3, .int z24_0)]) hl [1, 2, 3, 0] rfl
      have hP9 : va_P D vwCl ([(a25, .inr (12, [.ref u50_10, .int 0, .int u31_5, .int u50_13])), (u50_10, .inl (C 1, u50_11, .inl u50_12))] ++ wK C ad d) H := bd_P (lc := [(a25, .inr (12, [.ref u50_10, .int 0, .int u31_5, .int u50_13])), (u50_10, .inl (C 1, u50_11, .inl u50_12))]) hP [0, 1] rfl
      have hD9 : va_D A ([(a25, .inr (12, [.ref u50_10, .int 0, .int u31_5, .int u50_13])), (u50_10, .inl (C 1, u50_11, .inl u50_12))] ++ wK C ad d) := bd_D (lc := [(a25, .inr (12, [.ref u50_10, .int 0, .int u31_5, .int u50_13])), (u50_10, .inl (C 1, u50_11, .inl u50_12))]) hD [0, 1] rfl (by decide)
      exact HB74 a25 x2 z24_0 r71 d u50_10 u50_11 u50_12 u50_13 u31_5 H locs ls hl9 hP9 hD9 hS hwp
    · have hwp := hwp.2 c59
      refine lv_bipush (v := 12) hx hb dL_load_62 (by decide) ?_
      refine lv_goto (tgt := 74) hx hb dL_load_64 (by decide) ?_
      obtain ⟨hbk, hwp⟩ := hwp
      refine W.widen (k := (8 + u50_11)) (n := (100 + 2 * u50_11)) hbk.1 hbk.2 ?_
      have hl9 := lv_sub (l' := [(0, .ref (ad 0)), (1, .ref q1), (2, .int x2), (3, .int z24_0)]) hl [1, 2, 3, 0] rfl
      have hP9 : va_P D vwCl ([(a25, .inr (12, [.ref u50_10, .int 0, .int u31_5, .int u50_13])), (u50_10, .inl (C 1, u50_11, .inl u50_12))] ++ wK C ad d) H := bd_P (lc := [(a25, .inr (12, [.ref u50_10, .int 0, .int u31_5, .int u50_13])), (u50_10, .inl (C 1, u50_11, .inl u50_12))]) hP [0, 1] rfl
      have hD9 : va_D A ([(a25, .inr (12, [.ref u50_10, .int 0, .int u31_5, .int u50_13])), (u50_10, .inl (C 1, u50_11, .inl u50_12))] ++ wK C ad d) := bd_D (lc := [(a25, .inr (12, [.ref u50_10, .int 0, .int u31_5, .int u50_13])), (u50_10, .inl (C 1, u50_11, .inl u50_12))]) hD [0, 1] rfl (by decide)
      exact HB74 a25 x2 z24_0 (12 : Int32) d u50_10 u50_11 u50_12 u50_13 u31_5 H locs ls hl9 hP9 hD9 hS hwp
  unfold wp_L_load at hwp
  obtain ⟨H, hH⟩ : ∃ H, H = s.heap := ⟨_, rfl⟩
  obtain ⟨locs, hlo⟩ : ∃ z : List Loc, z = [] := ⟨_, rfl⟩
  have hP : va_P D vwCl ([] ++ wK C ad d) H := by rw [hH]; exact hP
  have hD : va_D A ([] ++ wK C ad d) := hD
  have hS : va_S A s.heap H locs := by rw [hH, hlo]; exact hS
  suffices K : W p l e (headSpec ws_L_load rm_L_load).room s m ([.ref (ad 0), .ref q1] : List Value).toArray below meth c H locs 0 0 (MQ below (q_L_load D C ad q1 sn1 sx1 Q A) ([.ref (ad 0), .ref q1] : List Value).toArray s 3000 6000 A) (F0 m 0 ls []) from by rw [hH, hlo] at K; exact K
  refine lv_aload_n hx hb dL_load_0 rfl (lv_at hl 1 rfl) ?_
  refine lv_iconst (v := 0) hx hb dL_load_1 (by decide) ?_
  refine lv_bipush (v := 8) hx hb dL_load_2 (by decide) ?_
  have hPc := hP.sub (ws' := []) [] rfl
  have hDc := hD.sub (ws' := []) [] (by decide) rfl
  have hFc := va_free (wc := []) hD hS hA [] rfl
  obtain ⟨hbk, hwp⟩ := hwp
  refine va_calli (va_runS (As := [.ref q1, .int (0 : Int32), .int (8 : Int32)]) (rest := []) ⟨hx, hb, hml, hown, hts⟩ (met_L_draw l hst D C q1 (0 : Int32) (8 : Int32) sn1 sx1 H.size _ hwp) (va_cwS 3 hts gc_L_40 rfl rfl rfl (by decide +kernel) ⟨Nat.le_of_ble_eq_true rfl, Nat.le_of_ble_eq_true rfl⟩) ⟨fun a U g mk q => by obtain ⟨q0, q1, qP, qK, qD, qT, qS_q0⟩ := q; exact ⟨q0, q1, qP, va_K.moved (u := U) (U := U.calling g mk a) (Vm.Alike.refl U.vm) qK, qD, qT.mv (U := U.calling g mk a) (State.WarmedH.refl U), qS_q0.moved (U := U.calling g mk a) (Vm.Alike.refl U.vm)⟩, fun U hU hW => ⟨rfl, by rw [hU], by rw [hU]; exact hPc, va_K.moved hW.alike hK, hDc.weaken (fun _ _ _ _ => trivial), hT.call hS hFc hU hW, hs_q1.call hS hFc hU hW⟩⟩ rfl rfl hl.1 rfl (lv_room (Nat.le_of_ble_eq_true rfl)) dL_load_4 ⟨hbk.1, hbk.2⟩) hS (fun q _ h => hFc q h) hFc (fun r4 u t H1 locs ht hvm hwp hB hz1 hk1 hS => ?_)
  obtain ⟨hP1, -, hD1⟩ := hB
  rw [ht] at hP1
  obtain ⟨hP, hD⟩ := bd_joinL (lr := []) (l1 := []) hP hD [] [] rfl rfl (by decide) (by decide) hk1 hFc hP1 hD1
  generalize H1 = H at hP hS ⊢
  have hP : va_P D vwCl ([] ++ wK C ad d) H := hP
  have hD : va_D A ([] ++ wK C ad d) := hD
  refine lv_istore_n (lv' := [(2, .int r4), (0, .ref (ad 0)), (1, .ref q1)]) hx hb dL_load_7 rfl hl (by decide) rfl (fun ls hl => ?_)
  refine lv_aload_n hx hb dL_load_8 rfl (lv_at hl 2 rfl) ?_
  refine lv_iconst (v := 1) hx hb dL_load_9 (by decide) ?_
  refine lv_iconst (v := 2) hx hb dL_load_10 (by decide) ?_
  have hPc := hP.sub (ws' := []) [] rfl
  have hDc := hD.sub (ws' := []) [] (by decide) rfl
  have hFc := va_free (wc := []) hD hS hA [] rfl
  obtain ⟨hbk, hwp⟩ := hwp
  refine va_calli (va_runS (As := [.ref q1, .int (1 : Int32), .int (2 : Int32)]) (rest := []) ⟨hx, hb, hml, hown, hts⟩ (met_L_draw l hst D C q1 (1 : Int32) (2 : Int32) sn1 sx1 H.size _ hwp) (va_cwS 3 hts gc_L_40 rfl rfl rfl (by decide +kernel) ⟨Nat.le_of_ble_eq_true rfl, Nat.le_of_ble_eq_true rfl⟩) ⟨fun a U g mk q => by obtain ⟨q0, q1, qP, qK, qD, qT, qS_q0⟩ := q; exact ⟨q0, q1, qP, va_K.moved (u := U) (U := U.calling g mk a) (Vm.Alike.refl U.vm) qK, qD, qT.mv (U := U.calling g mk a) (State.WarmedH.refl U), qS_q0.moved (U := U.calling g mk a) (Vm.Alike.refl U.vm)⟩, fun U hU hW => ⟨rfl, by rw [hU], by rw [hU]; exact hPc, va_K.moved hW.alike hK, hDc.weaken (fun _ _ _ _ => trivial), hT.call hS hFc hU hW, hs_q1.call hS hFc hU hW⟩⟩ rfl rfl hl.1 rfl (lv_room (Nat.le_of_ble_eq_true rfl)) dL_load_11 ⟨hbk.1, hbk.2⟩) hS (fun q _ h => hFc q h) hFc (fun r11 u t H1 locs ht hvm hwp hB hz1 hk1 hS => ?_)
  obtain ⟨hP1, -, hD1⟩ := hB
  rw [ht] at hP1
  obtain ⟨hP, hD⟩ := bd_joinL (lr := []) (l1 := []) hP hD [] [] rfl rfl (by decide) (by decide) hk1 hFc hP1 hD1
  generalize H1 = H at hP hS ⊢
  have hP : va_P D vwCl ([] ++ wK C ad d) H := hP
  have hD : va_D A ([] ++ wK C ad d) := hD
  refine lv_if_ne (tgt := 22) hx hb dL_load_14 (by decide) (fun c14 => ?_) (fun c14 => ?_)
  · have hwp := hwp.1 c14
    refine lv_bipush (v := 8) hx hb dL_load_22 (by decide) ?_
    obtain ⟨hbk, hwp⟩ := hwp
    refine W.widen (k := 0) (n := 0) hbk.1 hbk.2 ?_
    have hl9 := lv_sub (l' := [(0, .ref (ad 0)), (1, .ref q1), (2, .int r4)]) hl [1, 2, 0] rfl
    have hP9 : va_P D vwCl ([] ++ wK C ad d) H := bd_P (lc := []) hP [] rfl
    have hD9 : va_D A ([] ++ wK C ad d) := bd_D (lc := []) hD [] rfl (by decide)
    exact HB24 r4 (8 : Int32) d H locs ls hl9 hP9 hD9 hS hwp
  · have hwp := hwp.2 c14
    refine lv_bipush (v := 100) hx hb dL_load_17 (by decide) ?_
    refine lv_goto (tgt := 24) hx hb dL_load_19 (by decide) ?_
    obtain ⟨hbk, hwp⟩ := hwp
    refine W.widen (k := 0) (n := 0) hbk.1 hbk.2 ?_
    have hl9 := lv_sub (l' := [(0, .ref (ad 0)), (1, .ref q1), (2, .int r4)]) hl [1, 2, 0] rfl
    have hP9 : va_P D vwCl ([] ++ wK C ad d) H := bd_P (lc := []) hP [] rfl
    have hD9 : va_D A ([] ++ wK C ad d) := bd_D (lc := []) hD [] rfl (by decide)
    exact HB24 r4 (100 : Int32) d H locs ls hl9 hP9 hD9 hS hwp

