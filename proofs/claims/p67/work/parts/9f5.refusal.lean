abbrev ws_L_refusal : List Cond := .code yL_refusal cL_refusal 3 (some .int) :: WALL
theorem gc_L_101 : GoodIn WALL (va_wsS RL 101 yL_sum ws_L_sum) := gc_s wd_1016 wd_1017 wd_34 wd_1018
theorem gc_L_105 : GoodIn WALL (va_wsS RL 105 yJ6_bitCount_0f7a4 ws_J6_bitCount_0f7a4) := gc_s wd_1019 wd_530 wd_57 wd_531
abbrev rm_L_refusal : Room := { frames := 9, cells := 0, slots := 0, locals := 157 }
abbrev w_L_refusal (C : Nat → ClassId) (ad : Nat → Nat) (d : DT) : va_W := ([] ++ wK C ad d)
abbrev q_L_refusal (D : va_G) (C : Nat → ClassId) (ad : Nat → Nat) (Q : Int32 → DT → Prop) (A : Nat → Prop) : Array Value → State → Outcome → State → Prop := va_Qi (fun (r : Int32) (u : DT) => Q r u) (fun (u : DT) (t : State) => va_P D vwCl (w_L_refusal C ad u) t.heap ∧ va_K D vwCl (tyL C) t ∧ va_D A (w_L_refusal C ad u)) A
set_option maxHeartbeats 4000000 in
set_option maxRecDepth 100000 in
theorem met_L_refusal (l : Launch) (hst : l.stackTraces = false) (D : va_G) (C : Nat → ClassId) (ad : Nat → Nat) (p1 : Int32) (d : DT) (sz : Nat) (Q : Int32 → DT → Prop) (hwp : wp_L_refusal p1 d Q) : Met l yL_refusal ws_L_refusal rm_L_refusal (va_Pc [.ref (ad 0), .int p1] (fun U => U.heap.size = sz ∧ va_P D vwCl (w_L_refusal C ad d) U.heap ∧ va_K D vwCl (tyL C) U ∧ va_D (fun _ => True) (w_L_refusal C ad d) ∧ TX (va_A (w_L_refusal C ad d) sz) U U.heap)) (q_L_refusal D C ad Q (va_A (w_L_refusal C ad d) sz)) 0 0 (va_A (w_L_refusal C ad d) sz) := by
  refine Met.ofW (cc := cL_refusal) (maxL := 3) (ret := (some .int)) (by decide) rfl ?_
  intro p e s m args below meth c s₁ B hml hv
  obtain ⟨rfl, hsz, hP, hK, hD0, hT⟩ := hv
  have hx := B.exec
  have hb := B.bytes
  have hr := B.returns
  have hts : ∀ w ∈ WALL, w.before _ s = true := fun w h => atoms_spec (ws := ws_L_refusal) B.pre w (List.mem_cons_of_mem _ h)
  have hown : s.vm.findClass RL = some m.cls := findClass_of_methodNamed B.named
  have hlocks := B.notSynchronized
  subst hsz
  have hD := hD0.self (sz := s.heap.size)
  generalize hAe : va_A (w_L_refusal C ad d) s.heap.size = A at hD ⊢ hT
  have hA : ∀ q : Nat, s.heap.size ≤ q → A q := fun q h => by rw [← hAe]; exact Or.inr h
  have hS : va_S A s.heap s.heap [] := va_S.rf
  have hl := lv_entry ([.ref (ad 0), .int p1]) (n := 3) (Nat.le_of_ble_eq_true rfl)
  rw [lg_entry_eq]
  generalize (lg_sl ([.ref (ad 0), .int p1]) ++ List.replicate (3 - (lg_sl ([.ref (ad 0), .int p1])).length) Slot.unset).toArray = ls at hl ⊢
  have hl : lv_has ls 3 [(0, .ref (ad 0)), (1, .int p1)] := hl
  have HL32 : ∀ (x1 : Int32) (k69 : DT → Prop) (hk69 : ∀ (d : DT) (H : Heap) (locs : List Loc) (ls : Array Slot), lv_has ls 3 [(0, .ref (ad 0)), (1, .int x1)] → va_P D vwCl ([] ++ wK C ad d) H → va_D A ([] ++ wK C ad d) → va_S A s.heap H locs → k69 d → W p l e (headSpec ws_L_refusal rm_L_refusal).room s m ([.ref (ad 0), .int p1] : List Value).toArray below meth c H locs 0 0 (MQ below (q_L_refusal D C ad Q A) ([.ref (ad 0), .int p1] : List Value).toArray s 0 0 A) (F0 m 69 ls [])) (n32 : Nat) (x2 : Int32) (d : DT) (H : Heap) (locs : List Loc) (ls : Array Slot), lv_has ls 3 [(0, .ref (ad 0)), (1, .int x1), (2, .int x2)] → va_P D vwCl ([] ++ wK C ad d) H → va_D A ([] ++ wK C ad d) → va_S A s.heap H locs → wp_L_refusal_L32 x1 k69 Q n32 x2 d → W p l e (headSpec ws_L_refusal rm_L_refusal).room s m ([.ref (ad 0), .int p1] : List Value).toArray below meth c H locs 0 0 (MQ below (q_L_refusal D C ad Q A) ([.ref (ad 0), .int p1] : List Value).toArray s 0 0 A) (F0 m 32 ls []) := by
    intro x1 k69 hk69 n32
    induction n32 with
    | zero =>
      intro x2 d H locs ls hl hP hD hS hwp
      exact False.elim hwp
    | succ n32 ih =>
      intro x2 d H locs ls hl hP hD hS hwp
      unfold wp_L_refusal_L32 at hwp
      refine lv_iload_n hx hb dL_refusal_32 rfl (lv_at hl 2 rfl) ?_
      refine lv_aload_n hx hb dL_refusal_33 rfl (lv_at hl 0 rfl) ?_
      refine lv_iconst (v := 0) hx hb dL_refusal_34 (by decide) ?_
      have hPc : va_P D vwCl ([] ++ wK C ad d) H := bd_P (lc := []) hP [] rfl
      have hDc : va_D A ([] ++ wK C ad d) := bd_D (lc := []) hD [] rfl (by decide)
      have hFc : ∀ q, va_A ([] ++ wK C ad d) H.size q → A q := bd_free (lc := []) hD hS hA [] rfl
      refine va_calli (va_runV (As := [.int (0 : Int32)]) (rest := [.int x2]) ⟨hx, hb, hml, hown, hts⟩ (mk_X10_property l hst D C ad (0 : Int32) d H.size _ hwp) (cwV 1 hts gc_L_94 rfl rfl rfl (by decide +kernel) ⟨Nat.le_of_ble_eq_true rfl, Nat.le_of_ble_eq_true rfl⟩) ⟨fun a U g mk q => by obtain ⟨q0, q1, qP, qK, qD, qT⟩ := q; exact ⟨q0, q1, qP, va_K.moved (u := U) (U := U.calling g mk a) (Vm.Alike.refl U.vm) qK, qD, qT.mv (U := U.calling g mk a) (State.WarmedH.refl U)⟩, va_recv hK hPc (ci := 10) (q0 := 0) rfl rfl, fun U hU hW => ⟨rfl, by rw [hU], by rw [hU]; exact hPc, va_K.moved hW.alike hK, hDc.weaken (fun _ _ _ _ => trivial), hT.call hS hFc hU hW⟩⟩ rfl rfl hl.1 rfl (lv_room (Nat.le_of_ble_eq_true rfl)) dL_refusal_35 ⟨Nat.le_of_ble_eq_true rfl, Nat.le_of_ble_eq_true rfl⟩) hS (fun q _ h => hFc q h) hFc (fun r35 u t H1 locs ht hvm hwp hB hz1 hk1 hS => ?_)
      obtain ⟨u35_4, rfl⟩ : ∃ z, z = u := ⟨_, rfl⟩
      obtain ⟨hP1, -, hD1⟩ := hB
      rw [ht] at hP1
      obtain ⟨hP, hD⟩ := bd_join (lr := []) (l1 := []) (b1 := wK C ad u35_4) hP hD [] [] rfl rfl (by decide) (by decide) hk1 hFc hP1 hD1
      generalize H1 = H at hP hS ⊢
      have hP : va_P D vwCl ([] ++ wK C ad u35_4) H := hP
      have hD : va_D A ([] ++ wK C ad u35_4) := hD
      refine lv_icmp_ge (tgt := 69) hx hb dL_refusal_38 (by decide) (fun c38 => ?_) (fun c38 => ?_)
      · have hwp := hwp.1 c38
        have hl9 := lv_sub (l' := [(0, .ref (ad 0)), (1, .int x1)]) hl [0, 1] rfl
        have hP9 : va_P D vwCl ([] ++ wK C ad u35_4) H := bd_P (lc := []) hP [] rfl
        have hD9 : va_D A ([] ++ wK C ad u35_4) := bd_D (lc := []) hD [] rfl (by decide)
        exact hk69 u35_4 H locs ls hl9 hP9 hD9 hS hwp
      · have hwp := hwp.2 c38
        refine lv_iload_n hx hb dL_refusal_41 rfl (lv_at hl 1 rfl) ?_
        refine lv_iload_n hx hb dL_refusal_42 rfl (lv_at hl 2 rfl) ?_
        refine lv_ishr hx hb dL_refusal_43 ?_
        refine lv_iconst (v := 1) hx hb dL_refusal_44 (by decide) ?_
        refine lv_iand hx hb dL_refusal_45 ?_
        refine lv_iconst (v := 1) hx hb dL_refusal_46 (by decide) ?_
        refine lv_icmp_ne (tgt := 63) hx hb dL_refusal_47 (by decide) (fun c47 => ?_) (fun c47 => ?_)
        · have hwp := hwp.1 c47
          refine lv_iinc (v := x2 + 1) (lv' := [(2, .int (x2 + 1)), (0, .ref (ad 0)), (1, .int x1)]) hx hb dL_refusal_63 hl (k := 2) rfl rfl (by decide) rfl (fun ls hl => ?_)
          refine lv_goto (tgt := 32) hx hb dL_refusal_66 (by decide) ?_
          have hl9 := lv_sub (l' := [(0, .ref (ad 0)), (1, .int x1), (2, .int (x2 + 1))]) hl [1, 2, 0] rfl
          have hP9 : va_P D vwCl ([] ++ wK C ad u35_4) H := bd_P (lc := []) hP [] rfl
          have hD9 : va_D A ([] ++ wK C ad u35_4) := bd_D (lc := []) hD [] rfl (by decide)
          exact ih (x2 + 1) u35_4 H locs ls hl9 hP9 hD9 hS hwp
        · have hwp := hwp.2 c47
          refine lv_aload_n hx hb dL_refusal_50 rfl (lv_at hl 0 rfl) ?_
          refine lv_iload_n hx hb dL_refusal_51 rfl (lv_at hl 2 rfl) ?_
          refine lv_iconst (v := 3) hx hb dL_refusal_52 (by decide) ?_
          have hPc : va_P D vwCl ([] ++ wK C ad u35_4) H := bd_P (lc := []) hP [] rfl
          have hDc : va_D A ([] ++ wK C ad u35_4) := bd_D (lc := []) hD [] rfl (by decide)
          have hFc : ∀ q, va_A ([] ++ wK C ad u35_4) H.size q → A q := bd_free (lc := []) hD hS hA [] rfl
          refine va_calli (va_runV (As := [.int x2, .int (3 : Int32)]) (rest := []) ⟨hx, hb, hml, hown, hts⟩ (mk_X10_item l hst D C ad x2 (3 : Int32) u35_4 H.size _ hwp) (cwV 2 hts gc_L_98 rfl rfl rfl (by decide +kernel) ⟨Nat.le_of_ble_eq_true rfl, Nat.le_of_ble_eq_true rfl⟩) ⟨fun a U g mk q => by obtain ⟨q0, q1, qP, qK, qD, qT⟩ := q; exact ⟨q0, q1, qP, va_K.moved (u := U) (U := U.calling g mk a) (Vm.Alike.refl U.vm) qK, qD, qT.mv (U := U.calling g mk a) (State.WarmedH.refl U)⟩, va_recv hK hPc (ci := 10) (q0 := 0) rfl rfl, fun U hU hW => ⟨rfl, by rw [hU], by rw [hU]; exact hPc, va_K.moved hW.alike hK, hDc.weaken (fun _ _ _ _ => trivial), hT.call hS hFc hU hW⟩⟩ rfl rfl hl.1 rfl (lv_room (Nat.le_of_ble_eq_true rfl)) dL_refusal_53 ⟨Nat.le_of_ble_eq_true rfl, Nat.le_of_ble_eq_true rfl⟩) hS (fun q _ h => hFc q h) hFc (fun r53 u t H1 locs ht hvm hwp hB hz1 hk1 hS => ?_)
          obtain ⟨u53_5, rfl⟩ : ∃ z, z = u := ⟨_, rfl⟩
          obtain ⟨hP1, -, hD1⟩ := hB
          rw [ht] at hP1
          obtain ⟨hP, hD⟩ := bd_join (lr := []) (l1 := []) (b1 := wK C ad u53_5) hP hD [] [] rfl rfl (by decide) (by decide) hk1 hFc hP1 hD1
          generalize H1 = H at hP hS ⊢
          have hP : va_P D vwCl ([] ++ wK C ad u53_5) H := hP
          have hD : va_D A ([] ++ wK C ad u53_5) := hD
          refine lv_iload_n hx hb dL_refusal_56 rfl (lv_at hl 1 rfl) ?_
          refine lv_iand hx hb dL_refusal_57 ?_
          refine lv_if_eq (tgt := 63) hx hb dL_refusal_58 (by decide) (fun c58 => ?_) (fun c58 => ?_)
          · have hwp := hwp.1 c58
            refine lv_iinc (v := x2 + 1) (lv' := [(2, .int (x2 + 1)), (0, .ref (ad 0)), (1, .int x1)]) hx hb dL_refusal_63 hl (k := 2) rfl rfl (by decide) rfl (fun ls hl => ?_)
            refine lv_goto (tgt := 32) hx hb dL_refusal_66 (by decide) ?_
            have hl9 := lv_sub (l' := [(0, .ref (ad 0)), (1, .int x1), (2, .int (x2 + 1))]) hl [1, 2, 0] rfl
            have hP9 : va_P D vwCl ([] ++ wK C ad u53_5) H := bd_P (lc := []) hP [] rfl
            have hD9 : va_D A ([] ++ wK C ad u53_5) := bd_D (lc := []) hD [] rfl (by decide)
            exact ih (x2 + 1) u53_5 H locs ls hl9 hP9 hD9 hS hwp
          · have hwp := hwp.2 c58
            refine lv_iconst (v := 3) hx hb dL_refusal_61 (by decide) ?_
            have hP9 : va_P D vwCl ([] ++ wK C ad u53_5) H := bd_P (lc := []) hP [] rfl
            have hD9 : va_D A ([] ++ wK C ad u53_5) := bd_D (lc := []) hD [] rfl (by decide)
            exact W.iret (v := (3 : Int32)) hx hb hr (fun t ht hW => ⟨⟨(3 : Int32), (u53_5), rfl, hwp, by rw [ht]; exact hP9, va_K.moved hW.alike hK, hD9⟩, hS.F ht⟩) hS.2.2 dL_refusal_62
  have HL71 : ∀ (x1 : Int32) (k110 : DT → Prop) (hk110 : ∀ (d : DT) (H : Heap) (locs : List Loc) (ls : Array Slot), lv_has ls 3 [(0, .ref (ad 0)), (1, .int x1)] → va_P D vwCl ([] ++ wK C ad d) H → va_D A ([] ++ wK C ad d) → va_S A s.heap H locs → k110 d → W p l e (headSpec ws_L_refusal rm_L_refusal).room s m ([.ref (ad 0), .int p1] : List Value).toArray below meth c H locs 0 0 (MQ below (q_L_refusal D C ad Q A) ([.ref (ad 0), .int p1] : List Value).toArray s 0 0 A) (F0 m 110 ls [])) (n71 : Nat) (x2 : Int32) (d : DT) (H : Heap) (locs : List Loc) (ls : Array Slot), lv_has ls 3 [(0, .ref (ad 0)), (1, .int x1), (2, .int x2)] → va_P D vwCl ([] ++ wK C ad d) H → va_D A ([] ++ wK C ad d) → va_S A s.heap H locs → wp_L_refusal_L71 x1 k110 Q n71 x2 d → W p l e (headSpec ws_L_refusal rm_L_refusal).room s m ([.ref (ad 0), .int p1] : List Value).toArray below meth c H locs 0 0 (MQ below (q_L_refusal D C ad Q A) ([.ref (ad 0), .int p1] : List Value).toArray s 0 0 A) (F0 m 71 ls []) := by
    intro x1 k110 hk110 n71
    induction n71 with
    | zero =>
      intro x2 d H locs ls hl hP hD hS hwp
      exact False.elim hwp
    | succ n71 ih =>
      intro x2 d H locs ls hl hP hD hS hwp
      unfold wp_L_refusal_L71 at hwp
      refine lv_iload_n hx hb dL_refusal_71 rfl (lv_at hl 2 rfl) ?_
      refine lv_aload_n hx hb dL_refusal_72 rfl (lv_at hl 0 rfl) ?_
      refine lv_iconst (v := 0) hx hb dL_refusal_73 (by decide) ?_
      have hPc : va_P D vwCl ([] ++ wK C ad d) H := bd_P (lc := []) hP [] rfl
      have hDc : va_D A ([] ++ wK C ad d) := bd_D (lc := []) hD [] rfl (by decide)
      have hFc : ∀ q, va_A ([] ++ wK C ad d) H.size q → A q := bd_free (lc := []) hD hS hA [] rfl
      refine va_calli (va_runV (As := [.int (0 : Int32)]) (rest := [.int x2]) ⟨hx, hb, hml, hown, hts⟩ (mk_X10_property l hst D C ad (0 : Int32) d H.size _ hwp) (cwV 1 hts gc_L_94 rfl rfl rfl (by decide +kernel) ⟨Nat.le_of_ble_eq_true rfl, Nat.le_of_ble_eq_true rfl⟩) ⟨fun a U g mk q => by obtain ⟨q0, q1, qP, qK, qD, qT⟩ := q; exact ⟨q0, q1, qP, va_K.moved (u := U) (U := U.calling g mk a) (Vm.Alike.refl U.vm) qK, qD, qT.mv (U := U.calling g mk a) (State.WarmedH.refl U)⟩, va_recv hK hPc (ci := 10) (q0 := 0) rfl rfl, fun U hU hW => ⟨rfl, by rw [hU], by rw [hU]; exact hPc, va_K.moved hW.alike hK, hDc.weaken (fun _ _ _ _ => trivial), hT.call hS hFc hU hW⟩⟩ rfl rfl hl.1 rfl (lv_room (Nat.le_of_ble_eq_true rfl)) dL_refusal_74 ⟨Nat.le_of_ble_eq_true rfl, Nat.le_of_ble_eq_true rfl⟩) hS (fun q _ h => hFc q h) hFc (fun r74 u t H1 locs ht hvm hwp hB hz1 hk1 hS => ?_)
      obtain ⟨u74_6, rfl⟩ : ∃ z, z = u := ⟨_, rfl⟩
      obtain ⟨hP1, -, hD1⟩ := hB
      rw [ht] at hP1
      obtain ⟨hP, hD⟩ := bd_join (lr := []) (l1 := []) (b1 := wK C ad u74_6) hP hD [] [] rfl rfl (by decide) (by decide) hk1 hFc hP1 hD1
      generalize H1 = H at hP hS ⊢
      have hP : va_P D vwCl ([] ++ wK C ad u74_6) H := hP
      have hD : va_D A ([] ++ wK C ad u74_6) := hD
      refine lv_icmp_ge (tgt := 110) hx hb dL_refusal_77 (by decide) (fun c77 => ?_) (fun c77 => ?_)
      · have hwp := hwp.1 c77
        have hl9 := lv_sub (l' := [(0, .ref (ad 0)), (1, .int x1)]) hl [0, 1] rfl
        have hP9 : va_P D vwCl ([] ++ wK C ad u74_6) H := bd_P (lc := []) hP [] rfl
        have hD9 : va_D A ([] ++ wK C ad u74_6) := bd_D (lc := []) hD [] rfl (by decide)
        exact hk110 u74_6 H locs ls hl9 hP9 hD9 hS hwp
      · have hwp := hwp.2 c77
        refine lv_iload_n hx hb dL_refusal_80 rfl (lv_at hl 1 rfl) ?_
        refine lv_iload_n hx hb dL_refusal_81 rfl (lv_at hl 2 rfl) ?_
        refine lv_ishr hx hb dL_refusal_82 ?_
        refine lv_iconst (v := 1) hx hb dL_refusal_83 (by decide) ?_
        refine lv_iand hx hb dL_refusal_84 ?_
        refine lv_iconst (v := 1) hx hb dL_refusal_85 (by decide) ?_
        refine lv_icmp_ne (tgt := 104) hx hb dL_refusal_86 (by decide) (fun c86 => ?_) (fun c86 => ?_)
        · have hwp := hwp.1 c86
          refine lv_iinc (v := x2 + 1) (lv' := [(2, .int (x2 + 1)), (0, .ref (ad 0)), (1, .int x1)]) hx hb dL_refusal_104 hl (k := 2) rfl rfl (by decide) rfl (fun ls hl => ?_)
          refine lv_goto (tgt := 71) hx hb dL_refusal_107 (by decide) ?_
          have hl9 := lv_sub (l' := [(0, .ref (ad 0)), (1, .int x1), (2, .int (x2 + 1))]) hl [1, 2, 0] rfl
          have hP9 : va_P D vwCl ([] ++ wK C ad u74_6) H := bd_P (lc := []) hP [] rfl
          have hD9 : va_D A ([] ++ wK C ad u74_6) := bd_D (lc := []) hD [] rfl (by decide)
          exact ih (x2 + 1) u74_6 H locs ls hl9 hP9 hD9 hS hwp
        · have hwp := hwp.2 c86
          refine lv_aload_n hx hb dL_refusal_89 rfl (lv_at hl 0 rfl) ?_
          refine lv_iload_n hx hb dL_refusal_90 rfl (lv_at hl 2 rfl) ?_
          refine lv_iconst (v := 4) hx hb dL_refusal_91 (by decide) ?_
          have hPc : va_P D vwCl ([] ++ wK C ad u74_6) H := bd_P (lc := []) hP [] rfl
          have hDc : va_D A ([] ++ wK C ad u74_6) := bd_D (lc := []) hD [] rfl (by decide)
          have hFc : ∀ q, va_A ([] ++ wK C ad u74_6) H.size q → A q := bd_free (lc := []) hD hS hA [] rfl
          refine va_calli (va_runV (As := [.int x2, .int (4 : Int32)]) (rest := []) ⟨hx, hb, hml, hown, hts⟩ (mk_X10_item l hst D C ad x2 (4 : Int32) u74_6 H.size _ hwp) (cwV 2 hts gc_L_98 rfl rfl rfl (by decide +kernel) ⟨Nat.le_of_ble_eq_true rfl, Nat.le_of_ble_eq_true rfl⟩) ⟨fun a U g mk q => by obtain ⟨q0, q1, qP, qK, qD, qT⟩ := q; exact ⟨q0, q1, qP, va_K.moved (u := U) (U := U.calling g mk a) (Vm.Alike.refl U.vm) qK, qD, qT.mv (U := U.calling g mk a) (State.WarmedH.refl U)⟩, va_recv hK hPc (ci := 10) (q0 := 0) rfl rfl, fun U hU hW => ⟨rfl, by rw [hU], by rw [hU]; exact hPc, va_K.moved hW.alike hK, hDc.weaken (fun _ _ _ _ => trivial), hT.call hS hFc hU hW⟩⟩ rfl rfl hl.1 rfl (lv_room (Nat.le_of_ble_eq_true rfl)) dL_refusal_92 ⟨Nat.le_of_ble_eq_true rfl, Nat.le_of_ble_eq_true rfl⟩) hS (fun q _ h => hFc q h) hFc (fun r92 u t H1 locs ht hvm hwp hB hz1 hk1 hS => ?_)
          obtain ⟨u92_7, rfl⟩ : ∃ z, z = u := ⟨_, rfl⟩
          obtain ⟨hP1, -, hD1⟩ := hB
          rw [ht] at hP1
          obtain ⟨hP, hD⟩ := bd_join (lr := []) (l1 := []) (b1 := wK C ad u92_7) hP hD [] [] rfl rfl (by decide) (by decide) hk1 hFc hP1 hD1
          generalize H1 = H at hP hS ⊢
          have hP : va_P D vwCl ([] ++ wK C ad u92_7) H := hP
          have hD : va_D A ([] ++ wK C ad u92_7) := hD
          refine lv_iload_n hx hb dL_refusal_95 rfl (lv_at hl 1 rfl) ?_
          refine lv_iconst (v := (-1)) hx hb dL_refusal_96 (by decide) ?_
          refine lv_ixor hx hb dL_refusal_97 ?_
          refine lv_iand hx hb dL_refusal_98 ?_
          refine lv_if_eq (tgt := 104) hx hb dL_refusal_99 (by decide) (fun c99 => ?_) (fun c99 => ?_)
          · have hwp := hwp.1 c99
            refine lv_iinc (v := x2 + 1) (lv' := [(2, .int (x2 + 1)), (0, .ref (ad 0)), (1, .int x1)]) hx hb dL_refusal_104 hl (k := 2) rfl rfl (by decide) rfl (fun ls hl => ?_)
            refine lv_goto (tgt := 71) hx hb dL_refusal_107 (by decide) ?_
            have hl9 := lv_sub (l' := [(0, .ref (ad 0)), (1, .int x1), (2, .int (x2 + 1))]) hl [1, 2, 0] rfl
            have hP9 : va_P D vwCl ([] ++ wK C ad u92_7) H := bd_P (lc := []) hP [] rfl
            have hD9 : va_D A ([] ++ wK C ad u92_7) := bd_D (lc := []) hD [] rfl (by decide)
            exact ih (x2 + 1) u92_7 H locs ls hl9 hP9 hD9 hS hwp
          · have hwp := hwp.2 c99
            refine lv_iconst (v := 4) hx hb dL_refusal_102 (by decide) ?_
            have hP9 : va_P D vwCl ([] ++ wK C ad u92_7) H := bd_P (lc := []) hP [] rfl
            have hD9 : va_D A ([] ++ wK C ad u92_7) := bd_D (lc := []) hD [] rfl (by decide)
            exact W.iret (v := (4 : Int32)) hx hb hr (fun t ht hW => ⟨⟨(4 : Int32), (u92_7), rfl, hwp, by rw [ht]; exact hP9, va_K.moved hW.alike hK, hD9⟩, hS.F ht⟩) hS.2.2 dL_refusal_103
  unfold wp_L_refusal at hwp
  obtain ⟨H, hH⟩ : ∃ H, H = s.heap := ⟨_, rfl⟩
  obtain ⟨locs, hlo⟩ : ∃ z : List Loc, z = [] := ⟨_, rfl⟩
  have hP : va_P D vwCl ([] ++ wK C ad d) H := by rw [hH]; exact hP
  have hD : va_D A ([] ++ wK C ad d) := hD
  have hS : va_S A s.heap H locs := by rw [hH, hlo]; exact hS
  suffices K : W p l e (headSpec ws_L_refusal rm_L_refusal).room s m ([.ref (ad 0), .int p1] : List Value).toArray below meth c H locs 0 0 (MQ below (q_L_refusal D C ad Q A) ([.ref (ad 0), .int p1] : List Value).toArray s 0 0 A) (F0 m 0 ls []) from by rw [hH, hlo] at K; exact K
  refine lv_aload_n hx hb dL_refusal_0 rfl (lv_at hl 0 rfl) ?_
  refine lv_iload_n hx hb dL_refusal_1 rfl (lv_at hl 1 rfl) ?_
  refine lv_iconst (v := 0) hx hb dL_refusal_2 (by decide) ?_
  have hPc : va_P D vwCl ([] ++ wK C ad d) H := bd_P (lc := []) hP [] rfl
  have hDc : va_D A ([] ++ wK C ad d) := bd_D (lc := []) hD [] rfl (by decide)
  have hFc : ∀ q, va_A ([] ++ wK C ad d) H.size q → A q := bd_free (lc := []) hD hS hA [] rfl
  refine va_calli (va_runS (As := [.ref (ad 0), .int p1, .int (0 : Int32)]) (rest := []) ⟨hx, hb, hml, hown, hts⟩ (met_L_sum l hst D C ad p1 (0 : Int32) d H.size _ hwp) (va_cwS 3 hts gc_L_101 rfl rfl rfl (by decide +kernel) ⟨Nat.le_of_ble_eq_true rfl, Nat.le_of_ble_eq_true rfl⟩) ⟨fun a U g mk q => by obtain ⟨q0, q1, qP, qK, qD, qT⟩ := q; exact ⟨q0, q1, qP, va_K.moved (u := U) (U := U.calling g mk a) (Vm.Alike.refl U.vm) qK, qD, qT.mv (U := U.calling g mk a) (State.WarmedH.refl U)⟩, fun U hU hW => ⟨rfl, by rw [hU], by rw [hU]; exact hPc, va_K.moved hW.alike hK, hDc.weaken (fun _ _ _ _ => trivial), hT.call hS hFc hU hW⟩⟩ rfl rfl hl.1 rfl (lv_room (Nat.le_of_ble_eq_true rfl)) dL_refusal_3 ⟨Nat.le_of_ble_eq_true rfl, Nat.le_of_ble_eq_true rfl⟩) hS (fun q _ h => hFc q h) hFc (fun r3 u t H1 locs ht hvm hwp hB hz1 hk1 hS => ?_)
  obtain ⟨u3_1, rfl⟩ : ∃ z, z = u := ⟨_, rfl⟩
  obtain ⟨hP1, -, hD1⟩ := hB
  rw [ht] at hP1
  obtain ⟨hP, hD⟩ := bd_join (lr := []) (l1 := []) (b1 := wK C ad u3_1) hP hD [] [] rfl rfl (by decide) (by decide) hk1 hFc hP1 hD1
  generalize H1 = H at hP hS ⊢
  have hP : va_P D vwCl ([] ++ wK C ad u3_1) H := hP
  have hD : va_D A ([] ++ wK C ad u3_1) := hD
  refine lv_aload_n hx hb dL_refusal_6 rfl (lv_at hl 0 rfl) ?_
  refine lv_iconst (v := 1) hx hb dL_refusal_7 (by decide) ?_
  have hPc : va_P D vwCl ([] ++ wK C ad u3_1) H := bd_P (lc := []) hP [] rfl
  have hDc : va_D A ([] ++ wK C ad u3_1) := bd_D (lc := []) hD [] rfl (by decide)
  have hFc : ∀ q, va_A ([] ++ wK C ad u3_1) H.size q → A q := bd_free (lc := []) hD hS hA [] rfl
  refine va_calli (va_runV (As := [.int (1 : Int32)]) (rest := [.int r3]) ⟨hx, hb, hml, hown, hts⟩ (mk_X10_property l hst D C ad (1 : Int32) u3_1 H.size _ hwp) (cwV 1 hts gc_L_94 rfl rfl rfl (by decide +kernel) ⟨Nat.le_of_ble_eq_true rfl, Nat.le_of_ble_eq_true rfl⟩) ⟨fun a U g mk q => by obtain ⟨q0, q1, qP, qK, qD, qT⟩ := q; exact ⟨q0, q1, qP, va_K.moved (u := U) (U := U.calling g mk a) (Vm.Alike.refl U.vm) qK, qD, qT.mv (U := U.calling g mk a) (State.WarmedH.refl U)⟩, va_recv hK hPc (ci := 10) (q0 := 0) rfl rfl, fun U hU hW => ⟨rfl, by rw [hU], by rw [hU]; exact hPc, va_K.moved hW.alike hK, hDc.weaken (fun _ _ _ _ => trivial), hT.call hS hFc hU hW⟩⟩ rfl rfl hl.1 rfl (lv_room (Nat.le_of_ble_eq_true rfl)) dL_refusal_8 ⟨Nat.le_of_ble_eq_true rfl, Nat.le_of_ble_eq_true rfl⟩) hS (fun q _ h => hFc q h) hFc (fun r8 u t H1 locs ht hvm hwp hB hz1 hk1 hS => ?_)
  obtain ⟨u8_2, rfl⟩ : ∃ z, z = u := ⟨_, rfl⟩
  obtain ⟨hP1, -, hD1⟩ := hB
  rw [ht] at hP1
  obtain ⟨hP, hD⟩ := bd_join (lr := []) (l1 := []) (b1 := wK C ad u8_2) hP hD [] [] rfl rfl (by decide) (by decide) hk1 hFc hP1 hD1
  generalize H1 = H at hP hS ⊢
  have hP : va_P D vwCl ([] ++ wK C ad u8_2) H := hP
  have hD : va_D A ([] ++ wK C ad u8_2) := hD
  refine lv_icmp_le (tgt := 16) hx hb dL_refusal_11 (by decide) (fun c11 => ?_) (fun c11 => ?_)
  · have hwp := hwp.1 c11
    refine lv_iload_n hx hb dL_refusal_16 rfl (lv_at hl 1 rfl) ?_
    have hPc := hP.sub (ws' := []) [] rfl
    have hDc := hD.sub (ws' := []) [] (by decide) rfl
    have hFc := va_free (wc := []) hD hS hA [] rfl
    refine va_calli (va_runS (As := [.int p1]) (rest := []) ⟨hx, hb, hml, hown, hts⟩ (met_J6_bitCount_0f7a4 l D C p1 H.size _ hwp) (va_cwS 1 hts gc_L_105 rfl rfl rfl (by decide +kernel) ⟨Nat.le_of_ble_eq_true rfl, Nat.le_of_ble_eq_true rfl⟩) ⟨fun a U g mk q => by obtain ⟨q0, q1, qP, qK, qD⟩ := q; exact ⟨q0, q1, qP, va_K.moved (u := U) (U := U.calling g mk a) (Vm.Alike.refl U.vm) qK, qD⟩, fun U hU hW => ⟨rfl, by rw [hU], by rw [hU]; exact hPc, va_K.moved hW.alike hK, hDc.weaken (fun _ _ _ _ => trivial)⟩⟩ rfl rfl hl.1 rfl (lv_room (Nat.le_of_ble_eq_true rfl)) dL_refusal_17 ⟨Nat.le_of_ble_eq_true rfl, Nat.le_of_ble_eq_true rfl⟩) hS (fun q _ h => hFc q h) hFc (fun r17 u t H1 locs ht hvm hwp hB hz1 hk1 hS => ?_)
    obtain ⟨hP1, -, hD1⟩ := hB
    rw [ht] at hP1
    obtain ⟨hP, hD⟩ := bd_joinL (lr := []) (l1 := []) hP hD [] [] rfl rfl (by decide) (by decide) hk1 hFc hP1 hD1
    generalize H1 = H at hP hS ⊢
    have hP : va_P D vwCl ([] ++ wK C ad u8_2) H := hP
    have hD : va_D A ([] ++ wK C ad u8_2) := hD
    refine lv_aload_n hx hb dL_refusal_20 rfl (lv_at hl 0 rfl) ?_
    refine lv_iconst (v := 2) hx hb dL_refusal_21 (by decide) ?_
    have hPc : va_P D vwCl ([] ++ wK C ad u8_2) H := bd_P (lc := []) hP [] rfl
    have hDc : va_D A ([] ++ wK C ad u8_2) := bd_D (lc := []) hD [] rfl (by decide)
    have hFc : ∀ q, va_A ([] ++ wK C ad u8_2) H.size q → A q := bd_free (lc := []) hD hS hA [] rfl
    refine va_calli (va_runV (As := [.int (2 : Int32)]) (rest := [.int r17]) ⟨hx, hb, hml, hown, hts⟩ (mk_X10_property l hst D C ad (2 : Int32) u8_2 H.size _ hwp) (cwV 1 hts gc_L_94 rfl rfl rfl (by decide +kernel) ⟨Nat.le_of_ble_eq_true rfl, Nat.le_of_ble_eq_true rfl⟩) ⟨fun a U g mk q => by obtain ⟨q0, q1, qP, qK, qD, qT⟩ := q; exact ⟨q0, q1, qP, va_K.moved (u := U) (U := U.calling g mk a) (Vm.Alike.refl U.vm) qK, qD, qT.mv (U := U.calling g mk a) (State.WarmedH.refl U)⟩, va_recv hK hPc (ci := 10) (q0 := 0) rfl rfl, fun U hU hW => ⟨rfl, by rw [hU], by rw [hU]; exact hPc, va_K.moved hW.alike hK, hDc.weaken (fun _ _ _ _ => trivial), hT.call hS hFc hU hW⟩⟩ rfl rfl hl.1 rfl (lv_room (Nat.le_of_ble_eq_true rfl)) dL_refusal_22 ⟨Nat.le_of_ble_eq_true rfl, Nat.le_of_ble_eq_true rfl⟩) hS (fun q _ h => hFc q h) hFc (fun r22 u t H1 locs ht hvm hwp hB hz1 hk1 hS => ?_)
    obtain ⟨u22_3, rfl⟩ : ∃ z, z = u := ⟨_, rfl⟩
    obtain ⟨hP1, -, hD1⟩ := hB
    rw [ht] at hP1
    obtain ⟨hP, hD⟩ := bd_join (lr := []) (l1 := []) (b1 := wK C ad u22_3) hP hD [] [] rfl rfl (by decide) (by decide) hk1 hFc hP1 hD1
    generalize H1 = H at hP hS ⊢
    have hP : va_P D vwCl ([] ++ wK C ad u22_3) H := hP
    have hD : va_D A ([] ++ wK C ad u22_3) := hD
    refine lv_icmp_le (tgt := 30) hx hb dL_refusal_25 (by decide) (fun c25 => ?_) (fun c25 => ?_)
    · have hwp := hwp.1 c25
      refine lv_iconst (v := 0) hx hb dL_refusal_30 (by decide) ?_
      refine lv_istore_n (lv' := [(2, .int (0 : Int32)), (0, .ref (ad 0)), (1, .int p1)]) hx hb dL_refusal_31 rfl hl (by decide) rfl (fun ls hl => ?_)
      have hl9 := lv_sub (l' := [(0, .ref (ad 0)), (1, .int p1), (2, .int (0 : Int32))]) hl [1, 2, 0] rfl
      have hP9 : va_P D vwCl ([] ++ wK C ad u22_3) H := bd_P (lc := []) hP [] rfl
      have hD9 : va_D A ([] ++ wK C ad u22_3) := bd_D (lc := []) hD [] rfl (by decide)
      obtain ⟨nn9, hwp⟩ := hwp
      refine HL32 p1 _ (fun d H locs ls hl hP hD hS hwp => ?_) nn9 (0 : Int32) u22_3 H locs ls hl9 hP9 hD9 hS hwp
      refine lv_iconst (v := 0) hx hb dL_refusal_69 (by decide) ?_
      refine lv_istore_n (lv' := [(2, .int (0 : Int32)), (0, .ref (ad 0)), (1, .int p1)]) hx hb dL_refusal_70 rfl hl (by decide) rfl (fun ls hl => ?_)
      have hl9 := lv_sub (l' := [(0, .ref (ad 0)), (1, .int p1), (2, .int (0 : Int32))]) hl [1, 2, 0] rfl
      have hP9 : va_P D vwCl ([] ++ wK C ad d) H := bd_P (lc := []) hP [] rfl
      have hD9 : va_D A ([] ++ wK C ad d) := bd_D (lc := []) hD [] rfl (by decide)
      obtain ⟨nn9, hwp⟩ := hwp
      refine HL71 p1 _ (fun d H locs ls hl hP hD hS hwp => ?_) nn9 (0 : Int32) d H locs ls hl9 hP9 hD9 hS hwp
      refine lv_aload_n hx hb dL_refusal_110 rfl (lv_at hl 0 rfl) ?_
      refine lv_iconst (v := 5) hx hb dL_refusal_111 (by decide) ?_
      have hPc : va_P D vwCl ([] ++ wK C ad d) H := bd_P (lc := []) hP [] rfl
      have hDc : va_D A ([] ++ wK C ad d) := bd_D (lc := []) hD [] rfl (by decide)
      have hFc : ∀ q, va_A ([] ++ wK C ad d) H.size q → A q := bd_free (lc := []) hD hS hA [] rfl
      refine va_calli (va_runV (As := [.int (5 : Int32)]) (rest := []) ⟨hx, hb, hml, hown, hts⟩ (mk_X10_property l hst D C ad (5 : Int32) d H.size _ hwp) (cwV 1 hts gc_L_94 rfl rfl rfl (by decide +kernel) ⟨Nat.le_of_ble_eq_true rfl, Nat.le_of_ble_eq_true rfl⟩) ⟨fun a U g mk q => by obtain ⟨q0, q1, qP, qK, qD, qT⟩ := q; exact ⟨q0, q1, qP, va_K.moved (u := U) (U := U.calling g mk a) (Vm.Alike.refl U.vm) qK, qD, qT.mv (U := U.calling g mk a) (State.WarmedH.refl U)⟩, va_recv hK hPc (ci := 10) (q0 := 0) rfl rfl, fun U hU hW => ⟨rfl, by rw [hU], by rw [hU]; exact hPc, va_K.moved hW.alike hK, hDc.weaken (fun _ _ _ _ => trivial), hT.call hS hFc hU hW⟩⟩ rfl rfl hl.1 rfl (lv_room (Nat.le_of_ble_eq_true rfl)) dL_refusal_112 ⟨Nat.le_of_ble_eq_true rfl, Nat.le_of_ble_eq_true rfl⟩) hS (fun q _ h => hFc q h) hFc (fun r112 u t H1 locs ht hvm hwp hB hz1 hk1 hS => ?_)
      obtain ⟨u112_8, rfl⟩ : ∃ z, z = u := ⟨_, rfl⟩
      obtain ⟨hP1, -, hD1⟩ := hB
      rw [ht] at hP1
      obtain ⟨hP, hD⟩ := bd_join (lr := []) (l1 := []) (b1 := wK C ad u112_8) hP hD [] [] rfl rfl (by decide) (by decide) hk1 hFc hP1 hD1
      generalize H1 = H at hP hS ⊢
      have hP : va_P D vwCl ([] ++ wK C ad u112_8) H := hP
      have hD : va_D A ([] ++ wK C ad u112_8) := hD
      refine lv_iload_n hx hb dL_refusal_115 rfl (lv_at hl 1 rfl) ?_
      refine lv_iconst (v := (-1)) hx hb dL_refusal_116 (by decide) ?_
      refine lv_ixor hx hb dL_refusal_117 ?_
      refine lv_iand hx hb dL_refusal_118 ?_
      refine lv_if_eq (tgt := 124) hx hb dL_refusal_119 (by decide) (fun c119 => ?_) (fun c119 => ?_)
      · have hwp := hwp.1 c119
        refine lv_aload_n hx hb dL_refusal_124 rfl (lv_at hl 0 rfl) ?_
        refine lv_bipush (v := 6) hx hb dL_refusal_125 (by decide) ?_
        have hPc : va_P D vwCl ([] ++ wK C ad u112_8) H := bd_P (lc := []) hP [] rfl
        have hDc : va_D A ([] ++ wK C ad u112_8) := bd_D (lc := []) hD [] rfl (by decide)
        have hFc : ∀ q, va_A ([] ++ wK C ad u112_8) H.size q → A q := bd_free (lc := []) hD hS hA [] rfl
        refine va_calli (va_runV (As := [.int (6 : Int32)]) (rest := []) ⟨hx, hb, hml, hown, hts⟩ (mk_X10_property l hst D C ad (6 : Int32) u112_8 H.size _ hwp) (cwV 1 hts gc_L_94 rfl rfl rfl (by decide +kernel) ⟨Nat.le_of_ble_eq_true rfl, Nat.le_of_ble_eq_true rfl⟩) ⟨fun a U g mk q => by obtain ⟨q0, q1, qP, qK, qD, qT⟩ := q; exact ⟨q0, q1, qP, va_K.moved (u := U) (U := U.calling g mk a) (Vm.Alike.refl U.vm) qK, qD, qT.mv (U := U.calling g mk a) (State.WarmedH.refl U)⟩, va_recv hK hPc (ci := 10) (q0 := 0) rfl rfl, fun U hU hW => ⟨rfl, by rw [hU], by rw [hU]; exact hPc, va_K.moved hW.alike hK, hDc.weaken (fun _ _ _ _ => trivial), hT.call hS hFc hU hW⟩⟩ rfl rfl hl.1 rfl (lv_room (Nat.le_of_ble_eq_true rfl)) dL_refusal_127 ⟨Nat.le_of_ble_eq_true rfl, Nat.le_of_ble_eq_true rfl⟩) hS (fun q _ h => hFc q h) hFc (fun r127 u t H1 locs ht hvm hwp hB hz1 hk1 hS => ?_)
        obtain ⟨u127_9, rfl⟩ : ∃ z, z = u := ⟨_, rfl⟩
        obtain ⟨hP1, -, hD1⟩ := hB
        rw [ht] at hP1
        obtain ⟨hP, hD⟩ := bd_join (lr := []) (l1 := []) (b1 := wK C ad u127_9) hP hD [] [] rfl rfl (by decide) (by decide) hk1 hFc hP1 hD1
        generalize H1 = H at hP hS ⊢
        have hP : va_P D vwCl ([] ++ wK C ad u127_9) H := hP
        have hD : va_D A ([] ++ wK C ad u127_9) := hD
        refine lv_iload_n hx hb dL_refusal_130 rfl (lv_at hl 1 rfl) ?_
        refine lv_iand hx hb dL_refusal_131 ?_
        refine lv_if_eq (tgt := 140) hx hb dL_refusal_132 (by decide) (fun c132 => ?_) (fun c132 => ?_)
        · have hwp := hwp.1 c132
          refine lv_iconst (v := 0) hx hb dL_refusal_140 (by decide) ?_
          have hP9 : va_P D vwCl ([] ++ wK C ad u127_9) H := bd_P (lc := []) hP [] rfl
          have hD9 : va_D A ([] ++ wK C ad u127_9) := bd_D (lc := []) hD [] rfl (by decide)
          exact W.iret (v := (0 : Int32)) hx hb hr (fun t ht hW => ⟨⟨(0 : Int32), (u127_9), rfl, hwp, by rw [ht]; exact hP9, va_K.moved hW.alike hK, hD9⟩, hS.F ht⟩) hS.2.2 dL_refusal_141
        · have hwp := hwp.2 c132
          refine lv_bipush (v := 6) hx hb dL_refusal_135 (by decide) ?_
          refine lv_goto (tgt := 141) hx hb dL_refusal_137 (by decide) ?_
          have hP9 : va_P D vwCl ([] ++ wK C ad u127_9) H := bd_P (lc := []) hP [] rfl
          have hD9 : va_D A ([] ++ wK C ad u127_9) := bd_D (lc := []) hD [] rfl (by decide)
          exact W.iret (v := (6 : Int32)) hx hb hr (fun t ht hW => ⟨⟨(6 : Int32), (u127_9), rfl, hwp, by rw [ht]; exact hP9, va_K.moved hW.alike hK, hD9⟩, hS.F ht⟩) hS.2.2 dL_refusal_141
      · have hwp := hwp.2 c119
        refine lv_iconst (v := 5) hx hb dL_refusal_122 (by decide) ?_
        have hP9 : va_P D vwCl ([] ++ wK C ad u112_8) H := bd_P (lc := []) hP [] rfl
        have hD9 : va_D A ([] ++ wK C ad u112_8) := bd_D (lc := []) hD [] rfl (by decide)
        exact W.iret (v := (5 : Int32)) hx hb hr (fun t ht hW => ⟨⟨(5 : Int32), (u112_8), rfl, hwp, by rw [ht]; exact hP9, va_K.moved hW.alike hK, hD9⟩, hS.F ht⟩) hS.2.2 dL_refusal_123
    · have hwp := hwp.2 c25
      refine lv_iconst (v := 2) hx hb dL_refusal_28 (by decide) ?_
      have hP9 : va_P D vwCl ([] ++ wK C ad u22_3) H := bd_P (lc := []) hP [] rfl
      have hD9 : va_D A ([] ++ wK C ad u22_3) := bd_D (lc := []) hD [] rfl (by decide)
      exact W.iret (v := (2 : Int32)) hx hb hr (fun t ht hW => ⟨⟨(2 : Int32), (u22_3), rfl, hwp, by rw [ht]; exact hP9, va_K.moved hW.alike hK, hD9⟩, hS.F ht⟩) hS.2.2 dL_refusal_29
  · have hwp := hwp.2 c11
    refine lv_iconst (v := 1) hx hb dL_refusal_14 (by decide) ?_
    have hP9 : va_P D vwCl ([] ++ wK C ad u8_2) H := bd_P (lc := []) hP [] rfl
    have hD9 : va_D A ([] ++ wK C ad u8_2) := bd_D (lc := []) hD [] rfl (by decide)
    exact W.iret (v := (1 : Int32)) hx hb hr (fun t ht hW => ⟨⟨(1 : Int32), (u8_2), rfl, hwp, by rw [ht]; exact hP9, va_K.moved hW.alike hK, hD9⟩, hS.F ht⟩) hS.2.2 dL_refusal_15

