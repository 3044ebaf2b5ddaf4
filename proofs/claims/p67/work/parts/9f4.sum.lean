abbrev ws_L_sum : List Cond := .code yL_sum cL_sum 5 (some .int) :: WALL
theorem gc_L_94 : GoodIn WALL (wsV RL 94 RX10 yX10_property ws_X10_property) := gc_v wd_451 wd_452 wd_453 wd_35 wd_454
theorem gc_L_98 : GoodIn WALL (wsV RL 98 RX10 yX10_item ws_X10_item) := gc_v wd_982 wd_983 wd_984 wd_35 wd_985
abbrev rm_L_sum : Room := { frames := 8, cells := 0, slots := 0, locals := 133 }
abbrev w_L_sum (C : Nat → ClassId) (ad : Nat → Nat) (d : DT) : va_W := ([] ++ wK C ad d)
abbrev q_L_sum (D : va_G) (C : Nat → ClassId) (ad : Nat → Nat) (Q : Int32 → DT → Prop) (A : Nat → Prop) : Array Value → State → Outcome → State → Prop := va_Qi (fun (r : Int32) (u : DT) => Q r u) (fun (u : DT) (t : State) => va_P D vwCl (w_L_sum C ad u) t.heap ∧ va_K D vwCl (tyL C) t ∧ va_D A (w_L_sum C ad u)) A
set_option maxHeartbeats 4000000 in
set_option maxRecDepth 100000 in
theorem met_L_sum (l : Launch) (hst : l.stackTraces = false) (D : va_G) (C : Nat → ClassId) (ad : Nat → Nat) (p1 : Int32) (p2 : Int32) (d : DT) (sz : Nat) (Q : Int32 → DT → Prop) (hwp : wp_L_sum p1 p2 d Q) : Met l yL_sum ws_L_sum rm_L_sum (va_Pc [.ref (ad 0), .int p1, .int p2] (fun U => U.heap.size = sz ∧ va_P D vwCl (w_L_sum C ad d) U.heap ∧ va_K D vwCl (tyL C) U ∧ va_D (fun _ => True) (w_L_sum C ad d) ∧ TX (va_A (w_L_sum C ad d) sz) U U.heap)) (q_L_sum D C ad Q (va_A (w_L_sum C ad d) sz)) 0 0 (va_A (w_L_sum C ad d) sz) := by
  refine Met.ofW (cc := cL_sum) (maxL := 5) (ret := (some .int)) (by decide) rfl ?_
  intro p e s m args below meth c s₁ B hml hv
  obtain ⟨rfl, hsz, hP, hK, hD0, hT⟩ := hv
  have hx := B.exec
  have hb := B.bytes
  have hr := B.returns
  have hts : ∀ w ∈ WALL, w.before _ s = true := fun w h => atoms_spec (ws := ws_L_sum) B.pre w (List.mem_cons_of_mem _ h)
  have hown : s.vm.findClass RL = some m.cls := findClass_of_methodNamed B.named
  have hlocks := B.notSynchronized
  subst hsz
  have hD := hD0.self (sz := s.heap.size)
  generalize hAe : va_A (w_L_sum C ad d) s.heap.size = A at hD ⊢ hT
  have hA : ∀ q : Nat, s.heap.size ≤ q → A q := fun q h => by rw [← hAe]; exact Or.inr h
  have hS : va_S A s.heap s.heap [] := va_S.rf
  have hl := lv_entry ([.ref (ad 0), .int p1, .int p2]) (n := 5) (Nat.le_of_ble_eq_true rfl)
  rw [lg_entry_eq]
  generalize (lg_sl ([.ref (ad 0), .int p1, .int p2]) ++ List.replicate (5 - (lg_sl ([.ref (ad 0), .int p1, .int p2])).length) Slot.unset).toArray = ls at hl ⊢
  have hl : lv_has ls 5 [(0, .ref (ad 0)), (1, .int p1), (2, .int p2)] := hl
  have HL5 : ∀ (x1 : Int32) (x2 : Int32) (n5 : Nat) (x3 : Int32) (x4 : Int32) (d : DT) (H : Heap) (locs : List Loc) (ls : Array Slot), lv_has ls 5 [(0, .ref (ad 0)), (1, .int x1), (2, .int x2), (3, .int x3), (4, .int x4)] → va_P D vwCl ([] ++ wK C ad d) H → va_D A ([] ++ wK C ad d) → va_S A s.heap H locs → wp_L_sum_L5 x1 x2 Q n5 x3 x4 d → W p l e (headSpec ws_L_sum rm_L_sum).room s m ([.ref (ad 0), .int p1, .int p2] : List Value).toArray below meth c H locs 0 0 (MQ below (q_L_sum D C ad Q A) ([.ref (ad 0), .int p1, .int p2] : List Value).toArray s 0 0 A) (F0 m 5 ls []) := by
    intro x1 x2 n5
    induction n5 with
    | zero =>
      intro x3 x4 d H locs ls hl hP hD hS hwp
      exact False.elim hwp
    | succ n5 ih =>
      intro x3 x4 d H locs ls hl hP hD hS hwp
      unfold wp_L_sum_L5 at hwp
      refine lv_iload hx hb dL_sum_5 (lv_at hl 4 rfl) ?_
      refine lv_aload_n hx hb dL_sum_7 rfl (lv_at hl 0 rfl) ?_
      refine lv_iconst (v := 0) hx hb dL_sum_8 (by decide) ?_
      have hPc : va_P D vwCl ([] ++ wK C ad d) H := bd_P (lc := []) hP [] rfl
      have hDc : va_D A ([] ++ wK C ad d) := bd_D (lc := []) hD [] rfl (by decide)
      have hFc : ∀ q, va_A ([] ++ wK C ad d) H.size q → A q := bd_free (lc := []) hD hS hA [] rfl
      refine va_calli (va_runV (As := [.int (0 : Int32)]) (rest := [.int x4]) ⟨hx, hb, hml, hown, hts⟩ (mk_X10_property l hst D C ad (0 : Int32) d H.size _ hwp) (cwV 1 hts gc_L_94 rfl rfl rfl (by decide +kernel) ⟨Nat.le_of_ble_eq_true rfl, Nat.le_of_ble_eq_true rfl⟩) ⟨fun a U g mk q => by obtain ⟨q0, q1, qP, qK, qD, qT⟩ := q; exact ⟨q0, q1, qP, va_K.moved (u := U) (U := U.calling g mk a) (Vm.Alike.refl U.vm) qK, qD, qT.mv (U := U.calling g mk a) (State.WarmedH.refl U)⟩, va_recv hK hPc (ci := 10) (q0 := 0) rfl rfl, fun U hU hW => ⟨rfl, by rw [hU], by rw [hU]; exact hPc, va_K.moved hW.alike hK, hDc.weaken (fun _ _ _ _ => trivial), hT.call hS hFc hU hW⟩⟩ rfl rfl hl.1 rfl (lv_room (Nat.le_of_ble_eq_true rfl)) dL_sum_9 ⟨Nat.le_of_ble_eq_true rfl, Nat.le_of_ble_eq_true rfl⟩) hS (fun q _ h => hFc q h) hFc (fun r9 u t H1 locs ht hvm hwp hB hz1 hk1 hS => ?_)
      obtain ⟨u9_1, rfl⟩ : ∃ z, z = u := ⟨_, rfl⟩
      obtain ⟨hP1, -, hD1⟩ := hB
      rw [ht] at hP1
      obtain ⟨hP, hD⟩ := bd_join (lr := []) (l1 := []) (b1 := wK C ad u9_1) hP hD [] [] rfl rfl (by decide) (by decide) hk1 hFc hP1 hD1
      generalize H1 = H at hP hS ⊢
      have hP : va_P D vwCl ([] ++ wK C ad u9_1) H := hP
      have hD : va_D A ([] ++ wK C ad u9_1) := hD
      refine lv_icmp_ge (tgt := 45) hx hb dL_sum_12 (by decide) (fun c12 => ?_) (fun c12 => ?_)
      · have hwp := hwp.1 c12
        refine lv_iload_n hx hb dL_sum_45 rfl (lv_at hl 3 rfl) ?_
        have hP9 : va_P D vwCl ([] ++ wK C ad u9_1) H := bd_P (lc := []) hP [] rfl
        have hD9 : va_D A ([] ++ wK C ad u9_1) := bd_D (lc := []) hD [] rfl (by decide)
        exact W.iret (v := x3) hx hb hr (fun t ht hW => ⟨⟨x3, (u9_1), rfl, hwp, by rw [ht]; exact hP9, va_K.moved hW.alike hK, hD9⟩, hS.F ht⟩) hS.2.2 dL_sum_46
      · have hwp := hwp.2 c12
        refine lv_iload_n hx hb dL_sum_15 rfl (lv_at hl 3 rfl) ?_
        refine lv_iload_n hx hb dL_sum_16 rfl (lv_at hl 1 rfl) ?_
        refine lv_iload hx hb dL_sum_17 (lv_at hl 4 rfl) ?_
        refine lv_ishr hx hb dL_sum_19 ?_
        refine lv_iconst (v := 1) hx hb dL_sum_20 (by decide) ?_
        refine lv_iand hx hb dL_sum_21 ?_
        refine lv_iconst (v := 1) hx hb dL_sum_22 (by decide) ?_
        refine lv_icmp_ne (tgt := 36) hx hb dL_sum_23 (by decide) (fun c23 => ?_) (fun c23 => ?_)
        · have hwp := hwp.1 c23
          refine lv_iconst (v := 0) hx hb dL_sum_36 (by decide) ?_
          refine lv_iadd hx hb dL_sum_37 ?_
          refine lv_topi (fun v38 ev38 => ?_)
          have hwp := hwp v38 ev38
          refine lv_istore_n (lv' := [(3, .int v38), (0, .ref (ad 0)), (1, .int x1), (2, .int x2), (4, .int x4)]) hx hb dL_sum_38 rfl hl (by decide) rfl (fun ls hl => ?_)
          refine lv_iinc (v := x4 + 1) (lv' := [(4, .int (x4 + 1)), (3, .int v38), (0, .ref (ad 0)), (1, .int x1), (2, .int x2)]) hx hb dL_sum_39 hl (k := 4) rfl rfl (by decide) rfl (fun ls hl => ?_)
          refine lv_goto (tgt := 5) hx hb dL_sum_42 (by decide) ?_
          have hl9 := lv_sub (l' := [(0, .ref (ad 0)), (1, .int x1), (2, .int x2), (3, .int v38), (4, .int (x4 + 1))]) hl [2, 3, 4, 1, 0] rfl
          have hP9 : va_P D vwCl ([] ++ wK C ad u9_1) H := bd_P (lc := []) hP [] rfl
          have hD9 : va_D A ([] ++ wK C ad u9_1) := bd_D (lc := []) hD [] rfl (by decide)
          exact ih v38 (x4 + 1) u9_1 H locs ls hl9 hP9 hD9 hS hwp
        · have hwp := hwp.2 c23
          refine lv_aload_n hx hb dL_sum_26 rfl (lv_at hl 0 rfl) ?_
          refine lv_iload hx hb dL_sum_27 (lv_at hl 4 rfl) ?_
          refine lv_iload_n hx hb dL_sum_29 rfl (lv_at hl 2 rfl) ?_
          have hPc : va_P D vwCl ([] ++ wK C ad u9_1) H := bd_P (lc := []) hP [] rfl
          have hDc : va_D A ([] ++ wK C ad u9_1) := bd_D (lc := []) hD [] rfl (by decide)
          have hFc : ∀ q, va_A ([] ++ wK C ad u9_1) H.size q → A q := bd_free (lc := []) hD hS hA [] rfl
          refine va_calli (va_runV (As := [.int x4, .int x2]) (rest := [.int x3]) ⟨hx, hb, hml, hown, hts⟩ (mk_X10_item l hst D C ad x4 x2 u9_1 H.size _ hwp) (cwV 2 hts gc_L_98 rfl rfl rfl (by decide +kernel) ⟨Nat.le_of_ble_eq_true rfl, Nat.le_of_ble_eq_true rfl⟩) ⟨fun a U g mk q => by obtain ⟨q0, q1, qP, qK, qD, qT⟩ := q; exact ⟨q0, q1, qP, va_K.moved (u := U) (U := U.calling g mk a) (Vm.Alike.refl U.vm) qK, qD, qT.mv (U := U.calling g mk a) (State.WarmedH.refl U)⟩, va_recv hK hPc (ci := 10) (q0 := 0) rfl rfl, fun U hU hW => ⟨rfl, by rw [hU], by rw [hU]; exact hPc, va_K.moved hW.alike hK, hDc.weaken (fun _ _ _ _ => trivial), hT.call hS hFc hU hW⟩⟩ rfl rfl hl.1 rfl (lv_room (Nat.le_of_ble_eq_true rfl)) dL_sum_30 ⟨Nat.le_of_ble_eq_true rfl, Nat.le_of_ble_eq_true rfl⟩) hS (fun q _ h => hFc q h) hFc (fun r30 u t H1 locs ht hvm hwp hB hz1 hk1 hS => ?_)
          obtain ⟨u30_2, rfl⟩ : ∃ z, z = u := ⟨_, rfl⟩
          obtain ⟨hP1, -, hD1⟩ := hB
          rw [ht] at hP1
          obtain ⟨hP, hD⟩ := bd_join (lr := []) (l1 := []) (b1 := wK C ad u30_2) hP hD [] [] rfl rfl (by decide) (by decide) hk1 hFc hP1 hD1
          generalize H1 = H at hP hS ⊢
          have hP : va_P D vwCl ([] ++ wK C ad u30_2) H := hP
          have hD : va_D A ([] ++ wK C ad u30_2) := hD
          refine lv_goto (tgt := 37) hx hb dL_sum_33 (by decide) ?_
          refine lv_iadd hx hb dL_sum_37 ?_
          refine lv_topi (fun v38 ev38 => ?_)
          have hwp := hwp v38 ev38
          refine lv_istore_n (lv' := [(3, .int v38), (0, .ref (ad 0)), (1, .int x1), (2, .int x2), (4, .int x4)]) hx hb dL_sum_38 rfl hl (by decide) rfl (fun ls hl => ?_)
          refine lv_iinc (v := x4 + 1) (lv' := [(4, .int (x4 + 1)), (3, .int v38), (0, .ref (ad 0)), (1, .int x1), (2, .int x2)]) hx hb dL_sum_39 hl (k := 4) rfl rfl (by decide) rfl (fun ls hl => ?_)
          refine lv_goto (tgt := 5) hx hb dL_sum_42 (by decide) ?_
          have hl9 := lv_sub (l' := [(0, .ref (ad 0)), (1, .int x1), (2, .int x2), (3, .int v38), (4, .int (x4 + 1))]) hl [2, 3, 4, 1, 0] rfl
          have hP9 : va_P D vwCl ([] ++ wK C ad u30_2) H := bd_P (lc := []) hP [] rfl
          have hD9 : va_D A ([] ++ wK C ad u30_2) := bd_D (lc := []) hD [] rfl (by decide)
          exact ih v38 (x4 + 1) u30_2 H locs ls hl9 hP9 hD9 hS hwp
  unfold wp_L_sum at hwp
  obtain ⟨H, hH⟩ : ∃ H, H = s.heap := ⟨_, rfl⟩
  obtain ⟨locs, hlo⟩ : ∃ z : List Loc, z = [] := ⟨_, rfl⟩
  have hP : va_P D vwCl ([] ++ wK C ad d) H := by rw [hH]; exact hP
  have hD : va_D A ([] ++ wK C ad d) := hD
  have hS : va_S A s.heap H locs := by rw [hH, hlo]; exact hS
  suffices K : W p l e (headSpec ws_L_sum rm_L_sum).room s m ([.ref (ad 0), .int p1, .int p2] : List Value).toArray below meth c H locs 0 0 (MQ below (q_L_sum D C ad Q A) ([.ref (ad 0), .int p1, .int p2] : List Value).toArray s 0 0 A) (F0 m 0 ls []) from by rw [hH, hlo] at K; exact K
  refine lv_iconst (v := 0) hx hb dL_sum_0 (by decide) ?_
  refine lv_istore_n (lv' := [(3, .int (0 : Int32)), (0, .ref (ad 0)), (1, .int p1), (2, .int p2)]) hx hb dL_sum_1 rfl hl (by decide) rfl (fun ls hl => ?_)
  refine lv_iconst (v := 0) hx hb dL_sum_2 (by decide) ?_
  refine lv_istore (lv' := [(4, .int (0 : Int32)), (3, .int (0 : Int32)), (0, .ref (ad 0)), (1, .int p1), (2, .int p2)]) hx hb dL_sum_3 hl (by decide) rfl (fun ls hl => ?_)
  have hl9 := lv_sub (l' := [(0, .ref (ad 0)), (1, .int p1), (2, .int p2), (3, .int (0 : Int32)), (4, .int (0 : Int32))]) hl [2, 3, 4, 1, 0] rfl
  have hP9 : va_P D vwCl ([] ++ wK C ad d) H := bd_P (lc := []) hP [] rfl
  have hD9 : va_D A ([] ++ wK C ad d) := bd_D (lc := []) hD [] rfl (by decide)
  obtain ⟨nn9, hwp⟩ := hwp
  refine HL5 p1 p2 nn9 (0 : Int32) (0 : Int32) d H locs ls hl9 hP9 hD9 hS hwp

