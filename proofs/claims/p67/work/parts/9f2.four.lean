abbrev ws_L_four : List Cond := .code yL_four cL_four 4 (some .int) :: WALL
theorem gc_L_8 : GoodIn WALL (wsV RL 8 RJ0 yJ0_length_8abf5 ws_J0_length_8abf5) := gc_v wd_824 wd_580 wd_581 wd_48 wd_582
theorem gc_L_14 : GoodIn WALL (wsV RL 14 RJ0 yJ0_charAt_5068e ws_J0_charAt_5068e) := gc_v wd_828 wd_829 wd_830 wd_48 wd_831
abbrev rm_L_four : Room := { frames := 4, cells := 0, slots := 0, locals := 85 }
abbrev w_L_four (C : Nat → ClassId) (q0 : Nat) (t0_bs : List Int32) : va_W := []
abbrev q_L_four (D : va_G) (C : Nat → ClassId) (q0 : Nat) (t0_bs : List Int32) (Q : Int32 → Prop) (A : Nat → Prop) : Array Value → State → Outcome → State → Prop := va_Qi (fun (r : Int32) (u : Unit) => Q r) (fun (u : Unit) (t : State) => va_P D vwCl (w_L_four C q0 t0_bs) t.heap ∧ va_K D vwCl (tyL C) t ∧ va_D A (w_L_four C q0 t0_bs)) A
set_option maxHeartbeats 4000000 in
set_option maxRecDepth 100000 in
theorem met_L_four (l : Launch) (hst : l.stackTraces = false) (D : va_G) (C : Nat → ClassId) (q0 : Nat) (p1 : Int32) (t0_bs : List Int32) (sz : Nat) (Q : Int32 → Prop) (hwp : wp_L_four p1 t0_bs Q) : Met l yL_four ws_L_four rm_L_four (va_Pc [.ref q0, .int p1] (fun U => U.heap.size = sz ∧ va_P D vwCl (w_L_four C q0 t0_bs) U.heap ∧ va_K D vwCl (tyL C) U ∧ va_D (fun _ => True) (w_L_four C q0 t0_bs) ∧ TX (va_A (w_L_four C q0 t0_bs) sz) U U.heap ∧ StrC t0_bs q0 (va_A (w_L_four C q0 t0_bs) sz) U U.heap)) (q_L_four D C q0 t0_bs Q (va_A (w_L_four C q0 t0_bs) sz)) 0 0 (va_A (w_L_four C q0 t0_bs) sz) := by
  refine Met.ofW (cc := cL_four) (maxL := 4) (ret := (some .int)) (by decide) rfl ?_
  intro p e s m args below meth c s₁ B hml hv
  obtain ⟨rfl, hsz, hP, hK, hD0, hT, hs_q0⟩ := hv
  have hx := B.exec
  have hb := B.bytes
  have hr := B.returns
  have hts : ∀ w ∈ WALL, w.before _ s = true := fun w h => atoms_spec (ws := ws_L_four) B.pre w (List.mem_cons_of_mem _ h)
  have hown : s.vm.findClass RL = some m.cls := findClass_of_methodNamed B.named
  have hlocks := B.notSynchronized
  subst hsz
  have hD := hD0.self (sz := s.heap.size)
  generalize hAe : va_A (w_L_four C q0 t0_bs) s.heap.size = A at hD ⊢ hT hs_q0
  have hA : ∀ q : Nat, s.heap.size ≤ q → A q := fun q h => by rw [← hAe]; exact Or.inr h
  have hS : va_S A s.heap s.heap [] := va_S.rf
  have hl := lv_entry ([.ref q0, .int p1]) (n := 4) (Nat.le_of_ble_eq_true rfl)
  rw [lg_entry_eq]
  generalize (lg_sl ([.ref q0, .int p1]) ++ List.replicate (4 - (lg_sl ([.ref q0, .int p1])).length) Slot.unset).toArray = ls at hl ⊢
  have hl : lv_has ls 4 [(0, .ref q0), (1, .int p1)] := hl
  have HL4 : ∀ (x1 : Int32) (n4 : Nat) (x2 : Int32) (x3 : Int32) (H : Heap) (locs : List Loc) (ls : Array Slot), lv_has ls 4 [(0, .ref q0), (1, .int x1), (2, .int x2), (3, .int x3)] → va_P D vwCl [] H → va_D A [] → va_S A s.heap H locs → wp_L_four_L4 t0_bs x1 Q n4 x2 x3 → W p l e (headSpec ws_L_four rm_L_four).room s m ([.ref q0, .int p1] : List Value).toArray below meth c H locs 0 0 (MQ below (q_L_four D C q0 t0_bs Q A) ([.ref q0, .int p1] : List Value).toArray s 0 0 A) (F0 m 4 ls []) := by
    intro x1 n4
    induction n4 with
    | zero =>
      intro x2 x3 H locs ls hl hP hD hS hwp
      exact False.elim hwp
    | succ n4 ih =>
      intro x2 x3 H locs ls hl hP hD hS hwp
      unfold wp_L_four_L4 at hwp
      refine lv_iload_n hx hb dL_four_4 rfl (lv_at hl 3 rfl) ?_
      refine lv_iconst (v := 4) hx hb dL_four_5 (by decide) ?_
      refine lv_icmp_ge (tgt := 42) hx hb dL_four_6 (by decide) (fun c6 => ?_) (fun c6 => ?_)
      · have hwp := hwp.1 c6
        refine lv_iload_n hx hb dL_four_42 rfl (lv_at hl 2 rfl) ?_
        have hP9 := hP.sub (ws' := []) [] rfl
        have hD9 := hD.sub (ws' := []) [] (by decide) rfl
        exact W.iret (v := x2) hx hb hr (fun t ht hW => ⟨⟨x2, (), rfl, hwp, by rw [ht]; exact hP9, va_K.moved hW.alike hK, hD9⟩, hS.F ht⟩) hS.2.2 dL_four_43
      · have hwp := hwp.2 c6
        refine lv_iload_n hx hb dL_four_9 rfl (lv_at hl 2 rfl) ?_
        refine lv_bipush (v := 8) hx hb dL_four_10 (by decide) ?_
        refine lv_ishl hx hb dL_four_12 ?_
        refine lv_iload_n hx hb dL_four_13 rfl (lv_at hl 1 rfl) ?_
        refine lv_iload_n hx hb dL_four_14 rfl (lv_at hl 3 rfl) ?_
        refine lv_iadd hx hb dL_four_15 ?_
        refine lv_aload_n hx hb dL_four_16 rfl (lv_at hl 0 rfl) ?_
        have hPc := hP.sub (ws' := []) [] rfl
        have hDc := hD.sub (ws' := []) [] (by decide) rfl
        have hFc := va_free (wc := []) hD hS hA [] rfl
        refine va_calli (va_runV (As := []) (rest := [.int (x1 + x3), .int (x2 <<< ((8 : Int32) &&& 31))]) ⟨hx, hb, hml, hown, hts⟩ (met_J0_length_8abf5 l hst D C q0 t0_bs H.size _ hwp) (cwV 0 hts gc_L_8 rfl rfl rfl (by decide +kernel) ⟨Nat.le_of_ble_eq_true rfl, Nat.le_of_ble_eq_true rfl⟩) ⟨fun a U g mk q => by obtain ⟨q0, q1, qP, qK, qD, qT, qS_q⟩ := q; exact ⟨q0, q1, qP, va_K.moved (u := U) (U := U.calling g mk a) (Vm.Alike.refl U.vm) qK, qD, qT.mv (U := U.calling g mk a) (State.WarmedH.refl U), qS_q.moved (U := U.calling g mk a) (Vm.Alike.refl U.vm)⟩, hs_q0.recv hS, fun U hU hW => ⟨rfl, by rw [hU], by rw [hU]; exact hPc, va_K.moved hW.alike hK, hDc.weaken (fun _ _ _ _ => trivial), hT.call hS hFc hU hW, hs_q0.call hS hFc hU hW⟩⟩ rfl rfl hl.1 rfl (lv_room (Nat.le_of_ble_eq_true rfl)) dL_four_17 ⟨Nat.le_of_ble_eq_true rfl, Nat.le_of_ble_eq_true rfl⟩) hS (fun q _ h => hFc q h) hFc (fun r17 u t H1 locs ht hvm hwp hB hz1 hk1 hS => ?_)
        obtain ⟨hP1, -, hD1⟩ := hB
        rw [ht] at hP1
        obtain ⟨hP, hD⟩ := va_join (wr := []) (w1 := []) hP hD [] [] rfl rfl (by decide) (by decide) hk1 hFc hP1 hD1
        generalize H1 = H at hP hS ⊢
        have hP : va_P D vwCl [] H := hP
        have hD : va_D A [] := hD
        refine lv_icmp_ge (tgt := 33) hx hb dL_four_20 (by decide) (fun c20 => ?_) (fun c20 => ?_)
        · have hwp := hwp.1 c20
          refine lv_iconst (v := 0) hx hb dL_four_33 (by decide) ?_
          refine lv_ior hx hb dL_four_34 ?_
          refine lv_topi (fun v35 ev35 => ?_)
          have hwp := hwp v35 ev35
          refine lv_istore_n (lv' := [(2, .int v35), (0, .ref q0), (1, .int x1), (3, .int x3)]) hx hb dL_four_35 rfl hl (by decide) rfl (fun ls hl => ?_)
          refine lv_iinc (v := x3 + 1) (lv' := [(3, .int (x3 + 1)), (2, .int v35), (0, .ref q0), (1, .int x1)]) hx hb dL_four_36 hl (k := 3) rfl rfl (by decide) rfl (fun ls hl => ?_)
          refine lv_goto (tgt := 4) hx hb dL_four_39 (by decide) ?_
          have hl9 := lv_sub (l' := [(0, .ref q0), (1, .int x1), (2, .int v35), (3, .int (x3 + 1))]) hl [2, 3, 1, 0] rfl
          have hP9 := hP.sub (ws' := []) [] rfl
          have hD9 := hD.sub (ws' := []) [] (by decide) rfl
          exact ih v35 (x3 + 1) H locs ls hl9 hP9 hD9 hS hwp
        · have hwp := hwp.2 c20
          refine lv_aload_n hx hb dL_four_23 rfl (lv_at hl 0 rfl) ?_
          refine lv_iload_n hx hb dL_four_24 rfl (lv_at hl 1 rfl) ?_
          refine lv_iload_n hx hb dL_four_25 rfl (lv_at hl 3 rfl) ?_
          refine lv_iadd hx hb dL_four_26 ?_
          have hPc := hP.sub (ws' := []) [] rfl
          have hDc := hD.sub (ws' := []) [] (by decide) rfl
          have hFc := va_free (wc := []) hD hS hA [] rfl
          refine va_calli (va_runV (As := [.int (x1 + x3)]) (rest := [.int (x2 <<< ((8 : Int32) &&& 31))]) ⟨hx, hb, hml, hown, hts⟩ (met_J0_charAt_5068e l hst D C q0 (x1 + x3) t0_bs H.size _ hwp) (cwV 1 hts gc_L_14 rfl rfl rfl (by decide +kernel) ⟨Nat.le_of_ble_eq_true rfl, Nat.le_of_ble_eq_true rfl⟩) ⟨fun a U g mk q => by obtain ⟨q0, q1, qP, qK, qD, qT, qS_q⟩ := q; exact ⟨q0, q1, qP, va_K.moved (u := U) (U := U.calling g mk a) (Vm.Alike.refl U.vm) qK, qD, qT.mv (U := U.calling g mk a) (State.WarmedH.refl U), qS_q.moved (U := U.calling g mk a) (Vm.Alike.refl U.vm)⟩, hs_q0.recv hS, fun U hU hW => ⟨rfl, by rw [hU], by rw [hU]; exact hPc, va_K.moved hW.alike hK, hDc.weaken (fun _ _ _ _ => trivial), hT.call hS hFc hU hW, hs_q0.call hS hFc hU hW⟩⟩ rfl rfl hl.1 rfl (lv_room (Nat.le_of_ble_eq_true rfl)) dL_four_27 ⟨Nat.le_of_ble_eq_true rfl, Nat.le_of_ble_eq_true rfl⟩) hS (fun q _ h => hFc q h) hFc (fun r27 u t H1 locs ht hvm hwp hB hz1 hk1 hS => ?_)
          obtain ⟨hP1, -, hD1⟩ := hB
          rw [ht] at hP1
          obtain ⟨hP, hD⟩ := va_join (wr := []) (w1 := []) hP hD [] [] rfl rfl (by decide) (by decide) hk1 hFc hP1 hD1
          generalize H1 = H at hP hS ⊢
          have hP : va_P D vwCl [] H := hP
          have hD : va_D A [] := hD
          refine lv_goto (tgt := 34) hx hb dL_four_30 (by decide) ?_
          refine lv_ior hx hb dL_four_34 ?_
          refine lv_topi (fun v35 ev35 => ?_)
          have hwp := hwp v35 ev35
          refine lv_istore_n (lv' := [(2, .int v35), (0, .ref q0), (1, .int x1), (3, .int x3)]) hx hb dL_four_35 rfl hl (by decide) rfl (fun ls hl => ?_)
          refine lv_iinc (v := x3 + 1) (lv' := [(3, .int (x3 + 1)), (2, .int v35), (0, .ref q0), (1, .int x1)]) hx hb dL_four_36 hl (k := 3) rfl rfl (by decide) rfl (fun ls hl => ?_)
          refine lv_goto (tgt := 4) hx hb dL_four_39 (by decide) ?_
          have hl9 := lv_sub (l' := [(0, .ref q0), (1, .int x1), (2, .int v35), (3, .int (x3 + 1))]) hl [2, 3, 1, 0] rfl
          have hP9 := hP.sub (ws' := []) [] rfl
          have hD9 := hD.sub (ws' := []) [] (by decide) rfl
          exact ih v35 (x3 + 1) H locs ls hl9 hP9 hD9 hS hwp
  unfold wp_L_four at hwp
  obtain ⟨H, hH⟩ : ∃ H, H = s.heap := ⟨_, rfl⟩
  obtain ⟨locs, hlo⟩ : ∃ z : List Loc, z = [] := ⟨_, rfl⟩
  have hP : va_P D vwCl [] H := by rw [hH]; exact hP
  have hD : va_D A [] := hD
  have hS : va_S A s.heap H locs := by rw [hH, hlo]; exact hS
  suffices K : W p l e (headSpec ws_L_four rm_L_four).room s m ([.ref q0, .int p1] : List Value).toArray below meth c H locs 0 0 (MQ below (q_L_four D C q0 t0_bs Q A) ([.ref q0, .int p1] : List Value).toArray s 0 0 A) (F0 m 0 ls []) from by rw [hH, hlo] at K; exact K
  refine lv_iconst (v := 0) hx hb dL_four_0 (by decide) ?_
  refine lv_istore_n (lv' := [(2, .int (0 : Int32)), (0, .ref q0), (1, .int p1)]) hx hb dL_four_1 rfl hl (by decide) rfl (fun ls hl => ?_)
  refine lv_iconst (v := 0) hx hb dL_four_2 (by decide) ?_
  refine lv_istore_n (lv' := [(3, .int (0 : Int32)), (2, .int (0 : Int32)), (0, .ref q0), (1, .int p1)]) hx hb dL_four_3 rfl hl (by decide) rfl (fun ls hl => ?_)
  have hl9 := lv_sub (l' := [(0, .ref q0), (1, .int p1), (2, .int (0 : Int32)), (3, .int (0 : Int32))]) hl [2, 3, 1, 0] rfl
  have hP9 := hP.sub (ws' := []) [] rfl
  have hD9 := hD.sub (ws' := []) [] (by decide) rfl
  obtain ⟨nn9, hwp⟩ := hwp
  refine HL4 p1 nn9 (0 : Int32) (0 : Int32) H locs ls hl9 hP9 hD9 hS hwp

