abbrev ws_L_layers : List Cond := .code yL_layers cL_layers 11 (some .boolean) :: WALL
theorem gc_L_130 : GoodIn WALL (va_wsS RL 130 yL_beats ws_L_beats) := gc_s wd_1119 wd_1120 wd_34 wd_1121
theorem gc_L_155 : GoodIn WALL (wsV RL 155 RX10 yX10_layerSize ws_X10_layerSize) := gc_v wd_1146 wd_1147 wd_1148 wd_35 wd_1149
theorem gc_L_158 : GoodIn WALL (wsV RL 158 RX10 yX10_layers ws_X10_layers) := gc_v wd_1184 wd_1185 wd_1186 wd_35 wd_1187
theorem gc_L_116 : GoodIn WALL (va_wsS RL 116 yL_refusal ws_L_refusal) := gc_s wd_1013 wd_1014 wd_34 wd_1015
theorem gc_L_160 : GoodIn WALL (wsV RL 160 RX10 yX10_layerOf ws_X10_layerOf) := gc_v wd_1188 wd_1189 wd_1190 wd_35 wd_1191
abbrev rm_L_layers : Room := { frames := 10, cells := 1, slots := 256, locals := 179 }
abbrev w_L_layers (C : Nat → ClassId) (q1 : Nat) (q2 : Nat) (ad : Nat → Nat) (t1 : Nat → Int32) (t2 : Nat → Int32) (d : DT) : va_W := ([(q1, .inl (C 0, 256, .inl t1)), (q2, .inl (C 0, 256, .inl t2))] ++ wK C ad d)
abbrev q_L_layers (D : va_G) (C : Nat → ClassId) (q1 : Nat) (q2 : Nat) (ad : Nat → Nat) (t1 : Nat → Int32) (t2 : Nat → Int32) (Q : Int32 → DT → Prop) (A : Nat → Prop) : Array Value → State → Outcome → State → Prop := va_Qi (fun (r : Int32) (u : DT) => Q r u) (fun (u : DT) (t : State) => va_P D vwCl (w_L_layers C q1 q2 ad t1 t2 u) t.heap ∧ va_K D vwCl (tyL C) t ∧ va_D A (w_L_layers C q1 q2 ad t1 t2 u)) A
set_option maxHeartbeats 4000000 in
set_option maxRecDepth 100000 in
theorem met_L_layers (l : Launch) (hst : l.stackTraces = false) (D : va_G) (C : Nat → ClassId) (q1 : Nat) (q2 : Nat) (ad : Nat → Nat) (p3 : Int32) (t1 : Nat → Int32) (t2 : Nat → Int32) (d : DT) (sz : Nat) (Q : Int32 → DT → Prop) (hwp : wp_L_layers p3 t1 t2 d Q) : Met l yL_layers ws_L_layers rm_L_layers (va_Pc [.ref (ad 0), .ref q1, .ref q2, .int p3] (fun U => U.heap.size = sz ∧ va_P D vwCl (w_L_layers C q1 q2 ad t1 t2 d) U.heap ∧ va_K D vwCl (tyL C) U ∧ va_D (fun _ => True) (w_L_layers C q1 q2 ad t1 t2 d) ∧ TX (va_A (w_L_layers C q1 q2 ad t1 t2 d) sz) U U.heap)) (q_L_layers D C q1 q2 ad t1 t2 Q (va_A (w_L_layers C q1 q2 ad t1 t2 d) sz)) 1 256 (va_A (w_L_layers C q1 q2 ad t1 t2 d) sz) := by
  refine Met.ofW (cc := cL_layers) (maxL := 11) (ret := (some .boolean)) (by decide) rfl ?_
  intro p e s m args below meth c s₁ B hml hv
  obtain ⟨rfl, hsz, hP, hK, hD0, hT⟩ := hv
  have hx := B.exec
  have hb := B.bytes
  have hr := B.returns
  have hts : ∀ w ∈ WALL, w.before _ s = true := fun w h => atoms_spec (ws := ws_L_layers) B.pre w (List.mem_cons_of_mem _ h)
  have hown : s.vm.findClass RL = some m.cls := findClass_of_methodNamed B.named
  have hlocks := B.notSynchronized
  subst hsz
  have hD := hD0.self (sz := s.heap.size)
  generalize hAe : va_A (w_L_layers C q1 q2 ad t1 t2 d) s.heap.size = A at hD ⊢ hT
  have hA : ∀ q : Nat, s.heap.size ≤ q → A q := fun q h => by rw [← hAe]; exact Or.inr h
  have hS : va_S A s.heap s.heap [] := va_S.rf
  have hl := lv_entry ([.ref (ad 0), .ref q1, .ref q2, .int p3]) (n := 11) (Nat.le_of_ble_eq_true rfl)
  rw [lg_entry_eq]
  generalize (lg_sl ([.ref (ad 0), .ref q1, .ref q2, .int p3]) ++ List.replicate (11 - (lg_sl ([.ref (ad 0), .ref q1, .ref q2, .int p3])).length) Slot.unset).toArray = ls at hl ⊢
  have hl : lv_has ls 11 [(0, .ref (ad 0)), (1, .ref q1), (2, .ref q2), (3, .int p3)] := hl
  have HL14 : ∀ (a1 : Nat) (n1 : Nat) (x3 : Int32) (x5 : Int32) (x6 : Int32) (d : DT) (k32 : (Nat → Int32) → Prop) (hk32 : ∀ (ta1 : Nat → Int32) (H : Heap) (locs : List Loc) (ls : Array Slot), lv_has ls 11 [(0, .ref (ad 0)), (1, .ref q1), (2, .ref q2), (3, .int x3), (4, .ref a1), (5, .int x5), (6, .int x6)] → va_P D vwCl ([(q1, .inl (C 0, 256, .inl t1)), (q2, .inl (C 0, 256, .inl t2)), (a1, .inl (C 0, n1, .inl ta1))] ++ wK C ad d) H → va_D A ([(q1, .inl (C 0, 256, .inl t1)), (q2, .inl (C 0, 256, .inl t2)), (a1, .inl (C 0, n1, .inl ta1))] ++ wK C ad d) → va_S A s.heap H locs → k32 ta1 → W p l e (headSpec ws_L_layers rm_L_layers).room s m ([.ref (ad 0), .ref q1, .ref q2, .int p3] : List Value).toArray below meth c H locs 1 256 (MQ below (q_L_layers D C q1 q2 ad t1 t2 Q A) ([.ref (ad 0), .ref q1, .ref q2, .int p3] : List Value).toArray s 1 256 A) (F0 m 32 ls [])) (n14 : Nat) (x7 : Int32) (ta1 : Nat → Int32) (H : Heap) (locs : List Loc) (ls : Array Slot), lv_has ls 11 [(0, .ref (ad 0)), (1, .ref q1), (2, .ref q2), (3, .int x3), (4, .ref a1), (5, .int x5), (6, .int x6), (7, .int x7)] → va_P D vwCl ([(q1, .inl (C 0, 256, .inl t1)), (q2, .inl (C 0, 256, .inl t2)), (a1, .inl (C 0, n1, .inl ta1))] ++ wK C ad d) H → va_D A ([(q1, .inl (C 0, 256, .inl t1)), (q2, .inl (C 0, 256, .inl t2)), (a1, .inl (C 0, n1, .inl ta1))] ++ wK C ad d) → va_S A s.heap H locs → wp_L_layers_L14 t1 t2 n1 x3 x5 x6 d k32 Q n14 x7 ta1 → W p l e (headSpec ws_L_layers rm_L_layers).room s m ([.ref (ad 0), .ref q1, .ref q2, .int p3] : List Value).toArray below meth c H locs 1 256 (MQ below (q_L_layers D C q1 q2 ad t1 t2 Q A) ([.ref (ad 0), .ref q1, .ref q2, .int p3] : List Value).toArray s 1 256 A) (F0 m 14 ls []) := by
    intro a1 n1 x3 x5 x6 d k32 hk32 n14
    induction n14 with
    | zero =>
      intro x7 ta1 H locs ls hl hP hD hS hwp
      exact False.elim hwp
    | succ n14 ih =>
      intro x7 ta1 H locs ls hl hP hD hS hwp
      unfold wp_L_layers_L14 at hwp
      refine lv_iload hx hb dL_layers_14 (lv_at hl 7 rfl) ?_
      refine lv_iload_n hx hb dL_layers_16 rfl (lv_at hl 3 rfl) ?_
      refine lv_icmp_ge (tgt := 32) hx hb dL_layers_17 (by decide) (fun c17 => ?_) (fun c17 => ?_)
      · have hwp := hwp.1 c17
        have hl9 := lv_sub (l' := [(0, .ref (ad 0)), (1, .ref q1), (2, .ref q2), (3, .int x3), (4, .ref a1), (5, .int x5), (6, .int x6)]) hl [0, 1, 2, 3, 4, 5, 6] rfl
        have hP9 : va_P D vwCl ([(q1, .inl (C 0, 256, .inl t1)), (q2, .inl (C 0, 256, .inl t2)), (a1, .inl (C 0, n1, .inl ta1))] ++ wK C ad d) H := bd_P (lc := [(q1, .inl (C 0, 256, .inl t1)), (q2, .inl (C 0, 256, .inl t2)), (a1, .inl (C 0, n1, .inl ta1))]) hP [0, 1, 2] rfl
        have hD9 : va_D A ([(q1, .inl (C 0, 256, .inl t1)), (q2, .inl (C 0, 256, .inl t2)), (a1, .inl (C 0, n1, .inl ta1))] ++ wK C ad d) := bd_D (lc := [(q1, .inl (C 0, 256, .inl t1)), (q2, .inl (C 0, 256, .inl t2)), (a1, .inl (C 0, n1, .inl ta1))]) hD [0, 1, 2] rfl (by decide)
        exact hk32 ta1 H locs ls hl9 hP9 hD9 hS hwp
      · have hwp := hwp.2 c17
        refine lv_aload hx hb dL_layers_20 (lv_at hl 4 rfl) ?_
        refine lv_iload hx hb dL_layers_22 (lv_at hl 7 rfl) ?_
        refine lv_iconst (v := (-1)) hx hb dL_layers_24 (by decide) ?_
        obtain ⟨hi25, hwp⟩ := hwp
        refine va_iast (D := D) hx hb hK hP hD hS 2 0 rfl rfl hi25 dL_layers_25 (fun H locs hP hD hS => ?_)
        have hP : va_P D vwCl ([(q1, .inl (C 0, 256, .inl t1)), (q2, .inl (C 0, 256, .inl t2)), (a1, .inl (C 0, n1, .inl (upd ta1 x7.toNatClampNeg (-1 : Int32))))] ++ wK C ad d) H := hP
        have hD : va_D A ([(q1, .inl (C 0, 256, .inl t1)), (q2, .inl (C 0, 256, .inl t2)), (a1, .inl (C 0, n1, .inl (upd ta1 x7.toNatClampNeg (-1 : Int32))))] ++ wK C ad d) := hD
        refine lv_iinc (v := x7 + 1) (lv' := [(7, .int (x7 + 1)), (0, .ref (ad 0)), (1, .ref q1), (2, .ref q2), (3, .int x3), (4, .ref a1), (5, .int x5), (6, .int x6)]) hx hb dL_layers_26 hl (k := 7) rfl rfl (by decide) rfl (fun ls hl => ?_)
        refine lv_goto (tgt := 14) hx hb dL_layers_29 (by decide) ?_
        have hl9 := lv_sub (l' := [(0, .ref (ad 0)), (1, .ref q1), (2, .ref q2), (3, .int x3), (4, .ref a1), (5, .int x5), (6, .int x6), (7, .int (x7 + 1))]) hl [1, 2, 3, 4, 5, 6, 7, 0] rfl
        have hP9 : va_P D vwCl ([(q1, .inl (C 0, 256, .inl t1)), (q2, .inl (C 0, 256, .inl t2)), (a1, .inl (C 0, n1, .inl (upd ta1 x7.toNatClampNeg (-1 : Int32))))] ++ wK C ad d) H := bd_P (lc := [(q1, .inl (C 0, 256, .inl t1)), (q2, .inl (C 0, 256, .inl t2)), (a1, .inl (C 0, n1, .inl (upd ta1 x7.toNatClampNeg (-1 : Int32))))]) hP [0, 1, 2] rfl
        have hD9 : va_D A ([(q1, .inl (C 0, 256, .inl t1)), (q2, .inl (C 0, 256, .inl t2)), (a1, .inl (C 0, n1, .inl (upd ta1 x7.toNatClampNeg (-1 : Int32))))] ++ wK C ad d) := bd_D (lc := [(q1, .inl (C 0, 256, .inl t1)), (q2, .inl (C 0, 256, .inl t2)), (a1, .inl (C 0, n1, .inl (upd ta1 x7.toNatClampNeg (-1 : Int32))))]) hD [0, 1, 2] rfl (by decide)
        exact ih (x7 + 1) (upd ta1 x7.toNatClampNeg (-1 : Int32)) H locs ls hl9 hP9 hD9 hS hwp
  have HB96 : ∀ (a1 : Nat) (n1 : Nat) (x3 : Int32) (x5 : Int32) (x6 : Int32) (x7 : Int32) (x8 : Int32) (d : DT) (ta1 : Nat → Int32) (k67 : Int32 → Int32 → Prop) (hk67 : ∀ (x9 : Int32) (x10 : Int32) (H : Heap) (locs : List Loc) (ls : Array Slot), lv_has ls 11 [(0, .ref (ad 0)), (1, .ref q1), (2, .ref q2), (3, .int x3), (4, .ref a1), (5, .int x5), (6, .int x6), (7, .int x7), (8, .int x8), (9, .int x9), (10, .int x10)] → va_P D vwCl ([(q1, .inl (C 0, 256, .inl t1)), (q2, .inl (C 0, 256, .inl t2)), (a1, .inl (C 0, n1, .inl ta1))] ++ wK C ad d) H → va_D A ([(q1, .inl (C 0, 256, .inl t1)), (q2, .inl (C 0, 256, .inl t2)), (a1, .inl (C 0, n1, .inl ta1))] ++ wK C ad d) → va_S A s.heap H locs → k67 x9 x10 → W p l e (headSpec ws_L_layers rm_L_layers).room s m ([.ref (ad 0), .ref q1, .ref q2, .int p3] : List Value).toArray below meth c H locs 1 256 (MQ below (q_L_layers D C q1 q2 ad t1 t2 Q A) ([.ref (ad 0), .ref q1, .ref q2, .int p3] : List Value).toArray s 1 256 A) (F0 m 67 ls [])) (k131 : Int32 → Prop) (hk131 : ∀ (x9 : Int32) (H : Heap) (locs : List Loc) (ls : Array Slot), lv_has ls 11 [(0, .ref (ad 0)), (1, .ref q1), (2, .ref q2), (3, .int x3), (4, .ref a1), (5, .int x5), (6, .int x6), (7, .int x7), (8, .int x8), (9, .int x9)] → va_P D vwCl ([(q1, .inl (C 0, 256, .inl t1)), (q2, .inl (C 0, 256, .inl t2)), (a1, .inl (C 0, n1, .inl ta1))] ++ wK C ad d) H → va_D A ([(q1, .inl (C 0, 256, .inl t1)), (q2, .inl (C 0, 256, .inl t2)), (a1, .inl (C 0, n1, .inl ta1))] ++ wK C ad d) → va_S A s.heap H locs → k131 x9 → W p l e (headSpec ws_L_layers rm_L_layers).room s m ([.ref (ad 0), .ref q1, .ref q2, .int p3] : List Value).toArray below meth c H locs 1 256 (MQ below (q_L_layers D C q1 q2 ad t1 t2 Q A) ([.ref (ad 0), .ref q1, .ref q2, .int p3] : List Value).toArray s 1 256 A) (F0 m 131 ls [])) (x10 : Int32) (H : Heap) (locs : List Loc) (ls : Array Slot), lv_has ls 11 [(0, .ref (ad 0)), (1, .ref q1), (2, .ref q2), (3, .int x3), (4, .ref a1), (5, .int x5), (6, .int x6), (7, .int x7), (8, .int x8), (10, .int x10)] → va_P D vwCl ([(q1, .inl (C 0, 256, .inl t1)), (q2, .inl (C 0, 256, .inl t2)), (a1, .inl (C 0, n1, .inl ta1))] ++ wK C ad d) H → va_D A ([(q1, .inl (C 0, 256, .inl t1)), (q2, .inl (C 0, 256, .inl t2)), (a1, .inl (C 0, n1, .inl ta1))] ++ wK C ad d) → va_S A s.heap H locs → wp_L_layers_b96 t1 t2 n1 x3 x5 x6 x7 x8 d ta1 k67 k131 Q x10 → W p l e (headSpec ws_L_layers rm_L_layers).room s m ([.ref (ad 0), .ref q1, .ref q2, .int p3] : List Value).toArray below meth c H locs 1 256 (MQ below (q_L_layers D C q1 q2 ad t1 t2 Q A) ([.ref (ad 0), .ref q1, .ref q2, .int p3] : List Value).toArray s 1 256 A) (F0 m 96 ls []) := by
    intro a1 n1 x3 x5 x6 x7 x8 d ta1 k67 hk67 k131 hk131 x10 H locs ls hl hP hD hS hwp
    unfold wp_L_layers_b96 at hwp
    refine lv_aload_n hx hb dL_layers_96 rfl (lv_at hl 1 rfl) ?_
    refine lv_iload hx hb dL_layers_97 (lv_at hl 9 rfl) ?_
    obtain ⟨hi99, hwp⟩ := hwp
    refine va_iald (D := D) hx hb hK hP 0 0 rfl rfl hi99 dL_layers_99 ?_
    refine lv_aload_n hx hb dL_layers_100 rfl (lv_at hl 2 rfl) ?_
    refine lv_iload hx hb dL_layers_101 (lv_at hl 9 rfl) ?_
    obtain ⟨hi103, hwp⟩ := hwp
    refine va_iald (D := D) hx hb hK hP 1 0 rfl rfl hi103 dL_layers_103 ?_
    refine lv_aload_n hx hb dL_layers_104 rfl (lv_at hl 1 rfl) ?_
    refine lv_iload hx hb dL_layers_105 (lv_at hl 8 rfl) ?_
    obtain ⟨hi107, hwp⟩ := hwp
    refine va_iald (D := D) hx hb hK hP 0 0 rfl rfl hi107 dL_layers_107 ?_
    refine lv_aload_n hx hb dL_layers_108 rfl (lv_at hl 2 rfl) ?_
    refine lv_iload hx hb dL_layers_109 (lv_at hl 8 rfl) ?_
    obtain ⟨hi111, hwp⟩ := hwp
    refine va_iald (D := D) hx hb hK hP 1 0 rfl rfl hi111 dL_layers_111 ?_
    have hPc := hP.sub (ws' := []) [] rfl
    have hDc := hD.sub (ws' := []) [] (by decide) rfl
    have hFc := va_free (wc := []) hD hS hA [] rfl
    refine va_calli (va_runS (As := [.int (t1 x10.toNatClampNeg), .int (t2 x10.toNatClampNeg), .int (t1 x8.toNatClampNeg), .int (t2 x8.toNatClampNeg)]) (rest := []) ⟨hx, hb, hml, hown, hts⟩ (met_L_beats l hst D C (t1 x10.toNatClampNeg) (t2 x10.toNatClampNeg) (t1 x8.toNatClampNeg) (t2 x8.toNatClampNeg) H.size _ hwp) (va_cwS 4 hts gc_L_130 rfl rfl rfl (by decide +kernel) ⟨Nat.le_of_ble_eq_true rfl, Nat.le_of_ble_eq_true rfl⟩) ⟨fun a U g mk q => by obtain ⟨q0, q1, qP, qK, qD, qT⟩ := q; exact ⟨q0, q1, qP, va_K.moved (u := U) (U := U.calling g mk a) (Vm.Alike.refl U.vm) qK, qD, qT.mv (U := U.calling g mk a) (State.WarmedH.refl U)⟩, fun U hU hW => ⟨rfl, by rw [hU], by rw [hU]; exact hPc, va_K.moved hW.alike hK, hDc.weaken (fun _ _ _ _ => trivial), hT.call hS hFc hU hW⟩⟩ rfl rfl hl.1 rfl (lv_room (Nat.le_of_ble_eq_true rfl)) dL_layers_112 ⟨Nat.le_of_ble_eq_true rfl, Nat.le_of_ble_eq_true rfl⟩) hS (fun q _ h => hFc q h) hFc (fun r112 u t H1 locs ht hvm hwp hB hz1 hk1 hS => ?_)
    obtain ⟨hP1, -, hD1⟩ := hB
    rw [ht] at hP1
    obtain ⟨hP, hD⟩ := bd_joinL (lr := [(q1, .inl (C 0, 256, .inl t1)), (q2, .inl (C 0, 256, .inl t2)), (a1, .inl (C 0, n1, .inl ta1))]) (l1 := []) hP hD [] [0, 1, 2] rfl rfl (by decide) (by decide) hk1 hFc hP1 hD1
    generalize H1 = H at hP hS ⊢
    have hP : va_P D vwCl ([(q1, .inl (C 0, 256, .inl t1)), (q2, .inl (C 0, 256, .inl t2)), (a1, .inl (C 0, n1, .inl ta1))] ++ wK C ad d) H := hP
    have hD : va_D A ([(q1, .inl (C 0, 256, .inl t1)), (q2, .inl (C 0, 256, .inl t2)), (a1, .inl (C 0, n1, .inl ta1))] ++ wK C ad d) := hD
    refine lv_if_ne (tgt := 122) hx hb dL_layers_115 (by decide) (fun c115 => ?_) (fun c115 => ?_)
    · have hwp := hwp.1 c115
      refine lv_iconst (v := 0) hx hb dL_layers_122 (by decide) ?_
      refine lv_istore (lv' := [(9, .int (0 : Int32)), (0, .ref (ad 0)), (1, .ref q1), (2, .ref q2), (3, .int x3), (4, .ref a1), (5, .int x5), (6, .int x6), (7, .int x7), (8, .int x8), (10, .int x10)]) hx hb dL_layers_123 hl (by decide) rfl (fun ls hl => ?_)
      refine lv_iinc (v := x10 + 1) (lv' := [(10, .int (x10 + 1)), (9, .int (0 : Int32)), (0, .ref (ad 0)), (1, .ref q1), (2, .ref q2), (3, .int x3), (4, .ref a1), (5, .int x5), (6, .int x6), (7, .int x7), (8, .int x8)]) hx hb dL_layers_125 hl (k := 10) rfl rfl (by decide) rfl (fun ls hl => ?_)
      refine lv_goto (tgt := 67) hx hb dL_layers_128 (by decide) ?_
      have hl9 := lv_sub (l' := [(0, .ref (ad 0)), (1, .ref q1), (2, .ref q2), (3, .int x3), (4, .ref a1), (5, .int x5), (6, .int x6), (7, .int x7), (8, .int x8), (9, .int (0 : Int32)), (10, .int (x10 + 1))]) hl [2, 3, 4, 5, 6, 7, 8, 9, 10, 1, 0] rfl
      have hP9 : va_P D vwCl ([(q1, .inl (C 0, 256, .inl t1)), (q2, .inl (C 0, 256, .inl t2)), (a1, .inl (C 0, n1, .inl ta1))] ++ wK C ad d) H := bd_P (lc := [(q1, .inl (C 0, 256, .inl t1)), (q2, .inl (C 0, 256, .inl t2)), (a1, .inl (C 0, n1, .inl ta1))]) hP [0, 1, 2] rfl
      have hD9 : va_D A ([(q1, .inl (C 0, 256, .inl t1)), (q2, .inl (C 0, 256, .inl t2)), (a1, .inl (C 0, n1, .inl ta1))] ++ wK C ad d) := bd_D (lc := [(q1, .inl (C 0, 256, .inl t1)), (q2, .inl (C 0, 256, .inl t2)), (a1, .inl (C 0, n1, .inl ta1))]) hD [0, 1, 2] rfl (by decide)
      exact hk67 (0 : Int32) (x10 + 1) H locs ls hl9 hP9 hD9 hS hwp
    · have hwp := hwp.2 c115
      refine lv_iconst (v := 1) hx hb dL_layers_118 (by decide) ?_
      refine lv_goto (tgt := 123) hx hb dL_layers_119 (by decide) ?_
      refine lv_istore (lv' := [(9, .int (1 : Int32)), (0, .ref (ad 0)), (1, .ref q1), (2, .ref q2), (3, .int x3), (4, .ref a1), (5, .int x5), (6, .int x6), (7, .int x7), (8, .int x8), (10, .int x10)]) hx hb dL_layers_123 hl (by decide) rfl (fun ls hl => ?_)
      refine lv_iinc (v := x10 + 1) (lv' := [(10, .int (x10 + 1)), (9, .int (1 : Int32)), (0, .ref (ad 0)), (1, .ref q1), (2, .ref q2), (3, .int x3), (4, .ref a1), (5, .int x5), (6, .int x6), (7, .int x7), (8, .int x8)]) hx hb dL_layers_125 hl (k := 10) rfl rfl (by decide) rfl (fun ls hl => ?_)
      refine lv_goto (tgt := 67) hx hb dL_layers_128 (by decide) ?_
      have hl9 := lv_sub (l' := [(0, .ref (ad 0)), (1, .ref q1), (2, .ref q2), (3, .int x3), (4, .ref a1), (5, .int x5), (6, .int x6), (7, .int x7), (8, .int x8), (9, .int (1 : Int32)), (10, .int (x10 + 1))]) hl [2, 3, 4, 5, 6, 7, 8, 9, 10, 1, 0] rfl
      have hP9 : va_P D vwCl ([(q1, .inl (C 0, 256, .inl t1)), (q2, .inl (C 0, 256, .inl t2)), (a1, .inl (C 0, n1, .inl ta1))] ++ wK C ad d) H := bd_P (lc := [(q1, .inl (C 0, 256, .inl t1)), (q2, .inl (C 0, 256, .inl t2)), (a1, .inl (C 0, n1, .inl ta1))]) hP [0, 1, 2] rfl
      have hD9 : va_D A ([(q1, .inl (C 0, 256, .inl t1)), (q2, .inl (C 0, 256, .inl t2)), (a1, .inl (C 0, n1, .inl ta1))] ++ wK C ad d) := bd_D (lc := [(q1, .inl (C 0, 256, .inl t1)), (q2, .inl (C 0, 256, .inl t2)), (a1, .inl (C 0, n1, .inl ta1))]) hD [0, 1, 2] rfl (by decide)
      exact hk67 (1 : Int32) (x10 + 1) H locs ls hl9 hP9 hD9 hS hwp
  have HL67 : ∀ (a1 : Nat) (n1 : Nat) (x3 : Int32) (x5 : Int32) (x6 : Int32) (x7 : Int32) (x8 : Int32) (d : DT) (ta1 : Nat → Int32) (k131 : Int32 → Prop) (hk131 : ∀ (x9 : Int32) (H : Heap) (locs : List Loc) (ls : Array Slot), lv_has ls 11 [(0, .ref (ad 0)), (1, .ref q1), (2, .ref q2), (3, .int x3), (4, .ref a1), (5, .int x5), (6, .int x6), (7, .int x7), (8, .int x8), (9, .int x9)] → va_P D vwCl ([(q1, .inl (C 0, 256, .inl t1)), (q2, .inl (C 0, 256, .inl t2)), (a1, .inl (C 0, n1, .inl ta1))] ++ wK C ad d) H → va_D A ([(q1, .inl (C 0, 256, .inl t1)), (q2, .inl (C 0, 256, .inl t2)), (a1, .inl (C 0, n1, .inl ta1))] ++ wK C ad d) → va_S A s.heap H locs → k131 x9 → W p l e (headSpec ws_L_layers rm_L_layers).room s m ([.ref (ad 0), .ref q1, .ref q2, .int p3] : List Value).toArray below meth c H locs 1 256 (MQ below (q_L_layers D C q1 q2 ad t1 t2 Q A) ([.ref (ad 0), .ref q1, .ref q2, .int p3] : List Value).toArray s 1 256 A) (F0 m 131 ls [])) (n67 : Nat) (x9 : Int32) (x10 : Int32) (H : Heap) (locs : List Loc) (ls : Array Slot), lv_has ls 11 [(0, .ref (ad 0)), (1, .ref q1), (2, .ref q2), (3, .int x3), (4, .ref a1), (5, .int x5), (6, .int x6), (7, .int x7), (8, .int x8), (9, .int x9), (10, .int x10)] → va_P D vwCl ([(q1, .inl (C 0, 256, .inl t1)), (q2, .inl (C 0, 256, .inl t2)), (a1, .inl (C 0, n1, .inl ta1))] ++ wK C ad d) H → va_D A ([(q1, .inl (C 0, 256, .inl t1)), (q2, .inl (C 0, 256, .inl t2)), (a1, .inl (C 0, n1, .inl ta1))] ++ wK C ad d) → va_S A s.heap H locs → wp_L_layers_L67 t1 t2 n1 x3 x5 x6 x7 x8 d ta1 k131 Q n67 x9 x10 → W p l e (headSpec ws_L_layers rm_L_layers).room s m ([.ref (ad 0), .ref q1, .ref q2, .int p3] : List Value).toArray below meth c H locs 1 256 (MQ below (q_L_layers D C q1 q2 ad t1 t2 Q A) ([.ref (ad 0), .ref q1, .ref q2, .int p3] : List Value).toArray s 1 256 A) (F0 m 67 ls []) := by
    intro a1 n1 x3 x5 x6 x7 x8 d ta1 k131 hk131 n67
    induction n67 with
    | zero =>
      intro x9 x10 H locs ls hl hP hD hS hwp
      exact False.elim hwp
    | succ n67 ih =>
      intro x9 x10 H locs ls hl hP hD hS hwp
      unfold wp_L_layers_L67 at hwp
      refine lv_iload hx hb dL_layers_67 (lv_at hl 10 rfl) ?_
      refine lv_iload_n hx hb dL_layers_69 rfl (lv_at hl 3 rfl) ?_
      refine lv_icmp_ge (tgt := 131) hx hb dL_layers_70 (by decide) (fun c70 => ?_) (fun c70 => ?_)
      · have hwp := hwp.1 c70
        have hl9 := lv_sub (l' := [(0, .ref (ad 0)), (1, .ref q1), (2, .ref q2), (3, .int x3), (4, .ref a1), (5, .int x5), (6, .int x6), (7, .int x7), (8, .int x8), (9, .int x9)]) hl [0, 1, 2, 3, 4, 5, 6, 7, 8, 9] rfl
        have hP9 : va_P D vwCl ([(q1, .inl (C 0, 256, .inl t1)), (q2, .inl (C 0, 256, .inl t2)), (a1, .inl (C 0, n1, .inl ta1))] ++ wK C ad d) H := bd_P (lc := [(q1, .inl (C 0, 256, .inl t1)), (q2, .inl (C 0, 256, .inl t2)), (a1, .inl (C 0, n1, .inl ta1))]) hP [0, 1, 2] rfl
        have hD9 : va_D A ([(q1, .inl (C 0, 256, .inl t1)), (q2, .inl (C 0, 256, .inl t2)), (a1, .inl (C 0, n1, .inl ta1))] ++ wK C ad d) := bd_D (lc := [(q1, .inl (C 0, 256, .inl t1)), (q2, .inl (C 0, 256, .inl t2)), (a1, .inl (C 0, n1, .inl ta1))]) hD [0, 1, 2] rfl (by decide)
        exact hk131 x9 H locs ls hl9 hP9 hD9 hS hwp
      · have hwp := hwp.2 c70
        refine lv_iload hx hb dL_layers_73 (lv_at hl 9 rfl) ?_
        refine lv_if_eq (tgt := 131) hx hb dL_layers_75 (by decide) (fun c75 => ?_) (fun c75 => ?_)
        · have hwp := hwp.1 c75
          have hl9 := lv_sub (l' := [(0, .ref (ad 0)), (1, .ref q1), (2, .ref q2), (3, .int x3), (4, .ref a1), (5, .int x5), (6, .int x6), (7, .int x7), (8, .int x8), (9, .int x9)]) hl [0, 1, 2, 3, 4, 5, 6, 7, 8, 9] rfl
          have hP9 : va_P D vwCl ([(q1, .inl (C 0, 256, .inl t1)), (q2, .inl (C 0, 256, .inl t2)), (a1, .inl (C 0, n1, .inl ta1))] ++ wK C ad d) H := bd_P (lc := [(q1, .inl (C 0, 256, .inl t1)), (q2, .inl (C 0, 256, .inl t2)), (a1, .inl (C 0, n1, .inl ta1))]) hP [0, 1, 2] rfl
          have hD9 : va_D A ([(q1, .inl (C 0, 256, .inl t1)), (q2, .inl (C 0, 256, .inl t2)), (a1, .inl (C 0, n1, .inl ta1))] ++ wK C ad d) := bd_D (lc := [(q1, .inl (C 0, 256, .inl t1)), (q2, .inl (C 0, 256, .inl t2)), (a1, .inl (C 0, n1, .inl ta1))]) hD [0, 1, 2] rfl (by decide)
          exact hk131 x9 H locs ls hl9 hP9 hD9 hS hwp
        · have hwp := hwp.2 c75
          refine lv_aload hx hb dL_layers_78 (lv_at hl 4 rfl) ?_
          refine lv_iload hx hb dL_layers_80 (lv_at hl 10 rfl) ?_
          obtain ⟨hi82, hwp⟩ := hwp
          refine va_iald (D := D) hx hb hK hP 2 0 rfl rfl hi82 dL_layers_82 ?_
          refine lv_if_lt (tgt := 96) hx hb dL_layers_83 (by decide) (fun c83 => ?_) (fun c83 => ?_)
          · have hwp := hwp.1 c83
            have hl9 := lv_sub (l' := [(0, .ref (ad 0)), (1, .ref q1), (2, .ref q2), (3, .int x3), (4, .ref a1), (5, .int x5), (6, .int x6), (7, .int x7), (8, .int x8), (10, .int x10)]) hl [0, 1, 2, 3, 4, 5, 6, 7, 8, 10] rfl
            have hP9 : va_P D vwCl ([(q1, .inl (C 0, 256, .inl t1)), (q2, .inl (C 0, 256, .inl t2)), (a1, .inl (C 0, n1, .inl ta1))] ++ wK C ad d) H := bd_P (lc := [(q1, .inl (C 0, 256, .inl t1)), (q2, .inl (C 0, 256, .inl t2)), (a1, .inl (C 0, n1, .inl ta1))]) hP [0, 1, 2] rfl
            have hD9 : va_D A ([(q1, .inl (C 0, 256, .inl t1)), (q2, .inl (C 0, 256, .inl t2)), (a1, .inl (C 0, n1, .inl ta1))] ++ wK C ad d) := bd_D (lc := [(q1, .inl (C 0, 256, .inl t1)), (q2, .inl (C 0, 256, .inl t2)), (a1, .inl (C 0, n1, .inl ta1))]) hD [0, 1, 2] rfl (by decide)
            exact HB96 a1 n1 x3 x5 x6 x7 x8 d ta1 _ (fun z0 z1 H locs ls hl hP hD hS hwp => ih z0 z1 H locs ls hl hP hD hS hwp) _ hk131 x10 H locs ls hl9 hP9 hD9 hS hwp
          · have hwp := hwp.2 c83
            refine lv_aload hx hb dL_layers_86 (lv_at hl 4 rfl) ?_
            refine lv_iload hx hb dL_layers_88 (lv_at hl 10 rfl) ?_
            obtain ⟨hi90, hwp⟩ := hwp
            refine va_iald (D := D) hx hb hK hP 2 0 rfl rfl hi90 dL_layers_90 ?_
            refine lv_iload hx hb dL_layers_91 (lv_at hl 6 rfl) ?_
            refine lv_icmp_lt (tgt := 118) hx hb dL_layers_93 (by decide) (fun c93 => ?_) (fun c93 => ?_)
            · have hwp := hwp.1 c93
              refine lv_iconst (v := 1) hx hb dL_layers_118 (by decide) ?_
              refine lv_goto (tgt := 123) hx hb dL_layers_119 (by decide) ?_
              refine lv_istore (lv' := [(9, .int (1 : Int32)), (0, .ref (ad 0)), (1, .ref q1), (2, .ref q2), (3, .int x3), (4, .ref a1), (5, .int x5), (6, .int x6), (7, .int x7), (8, .int x8), (10, .int x10)]) hx hb dL_layers_123 hl (by decide) rfl (fun ls hl => ?_)
              refine lv_iinc (v := x10 + 1) (lv' := [(10, .int (x10 + 1)), (9, .int (1 : Int32)), (0, .ref (ad 0)), (1, .ref q1), (2, .ref q2), (3, .int x3), (4, .ref a1), (5, .int x5), (6, .int x6), (7, .int x7), (8, .int x8)]) hx hb dL_layers_125 hl (k := 10) rfl rfl (by decide) rfl (fun ls hl => ?_)
              refine lv_goto (tgt := 67) hx hb dL_layers_128 (by decide) ?_
              have hl9 := lv_sub (l' := [(0, .ref (ad 0)), (1, .ref q1), (2, .ref q2), (3, .int x3), (4, .ref a1), (5, .int x5), (6, .int x6), (7, .int x7), (8, .int x8), (9, .int (1 : Int32)), (10, .int (x10 + 1))]) hl [2, 3, 4, 5, 6, 7, 8, 9, 10, 1, 0] rfl
              have hP9 : va_P D vwCl ([(q1, .inl (C 0, 256, .inl t1)), (q2, .inl (C 0, 256, .inl t2)), (a1, .inl (C 0, n1, .inl ta1))] ++ wK C ad d) H := bd_P (lc := [(q1, .inl (C 0, 256, .inl t1)), (q2, .inl (C 0, 256, .inl t2)), (a1, .inl (C 0, n1, .inl ta1))]) hP [0, 1, 2] rfl
              have hD9 : va_D A ([(q1, .inl (C 0, 256, .inl t1)), (q2, .inl (C 0, 256, .inl t2)), (a1, .inl (C 0, n1, .inl ta1))] ++ wK C ad d) := bd_D (lc := [(q1, .inl (C 0, 256, .inl t1)), (q2, .inl (C 0, 256, .inl t2)), (a1, .inl (C 0, n1, .inl ta1))]) hD [0, 1, 2] rfl (by decide)
              exact ih (1 : Int32) (x10 + 1) H locs ls hl9 hP9 hD9 hS hwp
            · have hwp := hwp.2 c93
              have hl9 := lv_sub (l' := [(0, .ref (ad 0)), (1, .ref q1), (2, .ref q2), (3, .int x3), (4, .ref a1), (5, .int x5), (6, .int x6), (7, .int x7), (8, .int x8), (10, .int x10)]) hl [0, 1, 2, 3, 4, 5, 6, 7, 8, 10] rfl
              have hP9 : va_P D vwCl ([(q1, .inl (C 0, 256, .inl t1)), (q2, .inl (C 0, 256, .inl t2)), (a1, .inl (C 0, n1, .inl ta1))] ++ wK C ad d) H := bd_P (lc := [(q1, .inl (C 0, 256, .inl t1)), (q2, .inl (C 0, 256, .inl t2)), (a1, .inl (C 0, n1, .inl ta1))]) hP [0, 1, 2] rfl
              have hD9 : va_D A ([(q1, .inl (C 0, 256, .inl t1)), (q2, .inl (C 0, 256, .inl t2)), (a1, .inl (C 0, n1, .inl ta1))] ++ wK C ad d) := bd_D (lc := [(q1, .inl (C 0, 256, .inl t1)), (q2, .inl (C 0, 256, .inl t2)), (a1, .inl (C 0, n1, .inl ta1))]) hD [0, 1, 2] rfl (by decide)
              exact HB96 a1 n1 x3 x5 x6 x7 x8 d ta1 _ (fun z0 z1 H locs ls hl hP hD hS hwp => ih z0 z1 H locs ls hl hP hD hS hwp) _ hk131 x10 H locs ls hl9 hP9 hD9 hS hwp
  have HL43 : ∀ (a1 : Nat) (n1 : Nat) (x3 : Int32) (x5 : Int32) (x6 : Int32) (d : DT) (k155 : Int32 → (Nat → Int32) → Prop) (hk155 : ∀ (x7 : Int32) (ta1 : Nat → Int32) (H : Heap) (locs : List Loc) (ls : Array Slot), lv_has ls 11 [(0, .ref (ad 0)), (1, .ref q1), (2, .ref q2), (3, .int x3), (4, .ref a1), (5, .int x5), (6, .int x6), (7, .int x7)] → va_P D vwCl ([(q1, .inl (C 0, 256, .inl t1)), (q2, .inl (C 0, 256, .inl t2)), (a1, .inl (C 0, n1, .inl ta1))] ++ wK C ad d) H → va_D A ([(q1, .inl (C 0, 256, .inl t1)), (q2, .inl (C 0, 256, .inl t2)), (a1, .inl (C 0, n1, .inl ta1))] ++ wK C ad d) → va_S A s.heap H locs → k155 x7 ta1 → W p l e (headSpec ws_L_layers rm_L_layers).room s m ([.ref (ad 0), .ref q1, .ref q2, .int p3] : List Value).toArray below meth c H locs 1 256 (MQ below (q_L_layers D C q1 q2 ad t1 t2 Q A) ([.ref (ad 0), .ref q1, .ref q2, .int p3] : List Value).toArray s 1 256 A) (F0 m 155 ls [])) (n43 : Nat) (x7 : Int32) (x8 : Int32) (ta1 : Nat → Int32) (H : Heap) (locs : List Loc) (ls : Array Slot), lv_has ls 11 [(0, .ref (ad 0)), (1, .ref q1), (2, .ref q2), (3, .int x3), (4, .ref a1), (5, .int x5), (6, .int x6), (7, .int x7), (8, .int x8)] → va_P D vwCl ([(q1, .inl (C 0, 256, .inl t1)), (q2, .inl (C 0, 256, .inl t2)), (a1, .inl (C 0, n1, .inl ta1))] ++ wK C ad d) H → va_D A ([(q1, .inl (C 0, 256, .inl t1)), (q2, .inl (C 0, 256, .inl t2)), (a1, .inl (C 0, n1, .inl ta1))] ++ wK C ad d) → va_S A s.heap H locs → wp_L_layers_L43 t1 t2 n1 x3 x5 x6 d k155 Q n43 x7 x8 ta1 → W p l e (headSpec ws_L_layers rm_L_layers).room s m ([.ref (ad 0), .ref q1, .ref q2, .int p3] : List Value).toArray below meth c H locs 1 256 (MQ below (q_L_layers D C q1 q2 ad t1 t2 Q A) ([.ref (ad 0), .ref q1, .ref q2, .int p3] : List Value).toArray s 1 256 A) (F0 m 43 ls []) := by
    intro a1 n1 x3 x5 x6 d k155 hk155 n43
    induction n43 with
    | zero =>
      intro x7 x8 ta1 H locs ls hl hP hD hS hwp
      exact False.elim hwp
    | succ n43 ih =>
      intro x7 x8 ta1 H locs ls hl hP hD hS hwp
      unfold wp_L_layers_L43 at hwp
      refine lv_iload hx hb dL_layers_43 (lv_at hl 8 rfl) ?_
      refine lv_iload_n hx hb dL_layers_45 rfl (lv_at hl 3 rfl) ?_
      refine lv_icmp_ge (tgt := 155) hx hb dL_layers_46 (by decide) (fun c46 => ?_) (fun c46 => ?_)
      · have hwp := hwp.1 c46
        have hl9 := lv_sub (l' := [(0, .ref (ad 0)), (1, .ref q1), (2, .ref q2), (3, .int x3), (4, .ref a1), (5, .int x5), (6, .int x6), (7, .int x7)]) hl [0, 1, 2, 3, 4, 5, 6, 7] rfl
        have hP9 : va_P D vwCl ([(q1, .inl (C 0, 256, .inl t1)), (q2, .inl (C 0, 256, .inl t2)), (a1, .inl (C 0, n1, .inl ta1))] ++ wK C ad d) H := bd_P (lc := [(q1, .inl (C 0, 256, .inl t1)), (q2, .inl (C 0, 256, .inl t2)), (a1, .inl (C 0, n1, .inl ta1))]) hP [0, 1, 2] rfl
        have hD9 : va_D A ([(q1, .inl (C 0, 256, .inl t1)), (q2, .inl (C 0, 256, .inl t2)), (a1, .inl (C 0, n1, .inl ta1))] ++ wK C ad d) := bd_D (lc := [(q1, .inl (C 0, 256, .inl t1)), (q2, .inl (C 0, 256, .inl t2)), (a1, .inl (C 0, n1, .inl ta1))]) hD [0, 1, 2] rfl (by decide)
        exact hk155 x7 ta1 H locs ls hl9 hP9 hD9 hS hwp
      · have hwp := hwp.2 c46
        refine lv_aload hx hb dL_layers_49 (lv_at hl 4 rfl) ?_
        refine lv_iload hx hb dL_layers_51 (lv_at hl 8 rfl) ?_
        obtain ⟨hi53, hwp⟩ := hwp
        refine va_iald (D := D) hx hb hK hP 2 0 rfl rfl hi53 dL_layers_53 ?_
        refine lv_if_ge (tgt := 61) hx hb dL_layers_54 (by decide) (fun c54 => ?_) (fun c54 => ?_)
        · have hwp := hwp.1 c54
          refine lv_iconst (v := 0) hx hb dL_layers_61 (by decide) ?_
          refine lv_istore (lv' := [(9, .int (0 : Int32)), (0, .ref (ad 0)), (1, .ref q1), (2, .ref q2), (3, .int x3), (4, .ref a1), (5, .int x5), (6, .int x6), (7, .int x7), (8, .int x8)]) hx hb dL_layers_62 hl (by decide) rfl (fun ls hl => ?_)
          refine lv_iconst (v := 0) hx hb dL_layers_64 (by decide) ?_
          refine lv_istore (lv' := [(10, .int (0 : Int32)), (9, .int (0 : Int32)), (0, .ref (ad 0)), (1, .ref q1), (2, .ref q2), (3, .int x3), (4, .ref a1), (5, .int x5), (6, .int x6), (7, .int x7), (8, .int x8)]) hx hb dL_layers_65 hl (by decide) rfl (fun ls hl => ?_)
          have hl9 := lv_sub (l' := [(0, .ref (ad 0)), (1, .ref q1), (2, .ref q2), (3, .int x3), (4, .ref a1), (5, .int x5), (6, .int x6), (7, .int x7), (8, .int x8), (9, .int (0 : Int32)), (10, .int (0 : Int32))]) hl [2, 3, 4, 5, 6, 7, 8, 9, 10, 1, 0] rfl
          have hP9 : va_P D vwCl ([(q1, .inl (C 0, 256, .inl t1)), (q2, .inl (C 0, 256, .inl t2)), (a1, .inl (C 0, n1, .inl ta1))] ++ wK C ad d) H := bd_P (lc := [(q1, .inl (C 0, 256, .inl t1)), (q2, .inl (C 0, 256, .inl t2)), (a1, .inl (C 0, n1, .inl ta1))]) hP [0, 1, 2] rfl
          have hD9 : va_D A ([(q1, .inl (C 0, 256, .inl t1)), (q2, .inl (C 0, 256, .inl t2)), (a1, .inl (C 0, n1, .inl ta1))] ++ wK C ad d) := bd_D (lc := [(q1, .inl (C 0, 256, .inl t1)), (q2, .inl (C 0, 256, .inl t2)), (a1, .inl (C 0, n1, .inl ta1))]) hD [0, 1, 2] rfl (by decide)
          obtain ⟨nn9, hwp⟩ := hwp
          refine HL67 a1 n1 x3 x5 x6 x7 x8 d ta1 _ (fun x9 H locs ls hl hP hD hS hwp => ?_) nn9 (0 : Int32) (0 : Int32) H locs ls hl9 hP9 hD9 hS hwp
          refine lv_iload hx hb dL_layers_131 (lv_at hl 9 rfl) ?_
          refine lv_if_ne (tgt := 139) hx hb dL_layers_133 (by decide) (fun c133 => ?_) (fun c133 => ?_)
          · have hwp := hwp.1 c133
            refine lv_aload hx hb dL_layers_139 (lv_at hl 4 rfl) ?_
            refine lv_iload hx hb dL_layers_141 (lv_at hl 8 rfl) ?_
            refine lv_iload hx hb dL_layers_143 (lv_at hl 6 rfl) ?_
            obtain ⟨hi145, hwp⟩ := hwp
            refine va_iast (D := D) hx hb hK hP hD hS 2 0 rfl rfl hi145 dL_layers_145 (fun H locs hP hD hS => ?_)
            have hP : va_P D vwCl ([(q1, .inl (C 0, 256, .inl t1)), (q2, .inl (C 0, 256, .inl t2)), (a1, .inl (C 0, n1, .inl (upd ta1 x8.toNatClampNeg x6)))] ++ wK C ad d) H := hP
            have hD : va_D A ([(q1, .inl (C 0, 256, .inl t1)), (q2, .inl (C 0, 256, .inl t2)), (a1, .inl (C 0, n1, .inl (upd ta1 x8.toNatClampNeg x6)))] ++ wK C ad d) := hD
            refine lv_iinc (v := x7 + 1) (lv' := [(7, .int (x7 + 1)), (0, .ref (ad 0)), (1, .ref q1), (2, .ref q2), (3, .int x3), (4, .ref a1), (5, .int x5), (6, .int x6), (8, .int x8), (9, .int x9)]) hx hb dL_layers_146 hl (k := 7) rfl rfl (by decide) rfl (fun ls hl => ?_)
            refine lv_iinc (v := x8 + 1) (lv' := [(8, .int (x8 + 1)), (7, .int (x7 + 1)), (0, .ref (ad 0)), (1, .ref q1), (2, .ref q2), (3, .int x3), (4, .ref a1), (5, .int x5), (6, .int x6), (9, .int x9)]) hx hb dL_layers_149 hl (k := 8) rfl rfl (by decide) rfl (fun ls hl => ?_)
            refine lv_goto (tgt := 43) hx hb dL_layers_152 (by decide) ?_
            have hl9 := lv_sub (l' := [(0, .ref (ad 0)), (1, .ref q1), (2, .ref q2), (3, .int x3), (4, .ref a1), (5, .int x5), (6, .int x6), (7, .int (x7 + 1)), (8, .int (x8 + 1))]) hl [2, 3, 4, 5, 6, 7, 8, 1, 0] rfl
            have hP9 : va_P D vwCl ([(q1, .inl (C 0, 256, .inl t1)), (q2, .inl (C 0, 256, .inl t2)), (a1, .inl (C 0, n1, .inl (upd ta1 x8.toNatClampNeg x6)))] ++ wK C ad d) H := bd_P (lc := [(q1, .inl (C 0, 256, .inl t1)), (q2, .inl (C 0, 256, .inl t2)), (a1, .inl (C 0, n1, .inl (upd ta1 x8.toNatClampNeg x6)))]) hP [0, 1, 2] rfl
            have hD9 : va_D A ([(q1, .inl (C 0, 256, .inl t1)), (q2, .inl (C 0, 256, .inl t2)), (a1, .inl (C 0, n1, .inl (upd ta1 x8.toNatClampNeg x6)))] ++ wK C ad d) := bd_D (lc := [(q1, .inl (C 0, 256, .inl t1)), (q2, .inl (C 0, 256, .inl t2)), (a1, .inl (C 0, n1, .inl (upd ta1 x8.toNatClampNeg x6)))]) hD [0, 1, 2] rfl (by decide)
            exact ih (x7 + 1) (x8 + 1) (upd ta1 x8.toNatClampNeg x6) H locs ls hl9 hP9 hD9 hS hwp
          · have hwp := hwp.2 c133
            refine lv_goto (tgt := 149) hx hb dL_layers_136 (by decide) ?_
            refine lv_iinc (v := x8 + 1) (lv' := [(8, .int (x8 + 1)), (0, .ref (ad 0)), (1, .ref q1), (2, .ref q2), (3, .int x3), (4, .ref a1), (5, .int x5), (6, .int x6), (7, .int x7), (9, .int x9)]) hx hb dL_layers_149 hl (k := 8) rfl rfl (by decide) rfl (fun ls hl => ?_)
            refine lv_goto (tgt := 43) hx hb dL_layers_152 (by decide) ?_
            have hl9 := lv_sub (l' := [(0, .ref (ad 0)), (1, .ref q1), (2, .ref q2), (3, .int x3), (4, .ref a1), (5, .int x5), (6, .int x6), (7, .int x7), (8, .int (x8 + 1))]) hl [1, 2, 3, 4, 5, 6, 7, 8, 0] rfl
            have hP9 : va_P D vwCl ([(q1, .inl (C 0, 256, .inl t1)), (q2, .inl (C 0, 256, .inl t2)), (a1, .inl (C 0, n1, .inl ta1))] ++ wK C ad d) H := bd_P (lc := [(q1, .inl (C 0, 256, .inl t1)), (q2, .inl (C 0, 256, .inl t2)), (a1, .inl (C 0, n1, .inl ta1))]) hP [0, 1, 2] rfl
            have hD9 : va_D A ([(q1, .inl (C 0, 256, .inl t1)), (q2, .inl (C 0, 256, .inl t2)), (a1, .inl (C 0, n1, .inl ta1))] ++ wK C ad d) := bd_D (lc := [(q1, .inl (C 0, 256, .inl t1)), (q2, .inl (C 0, 256, .inl t2)), (a1, .inl (C 0, n1, .inl ta1))]) hD [0, 1, 2] rfl (by decide)
            exact ih x7 (x8 + 1) ta1 H locs ls hl9 hP9 hD9 hS hwp
        · have hwp := hwp.2 c54
          refine lv_iconst (v := 1) hx hb dL_layers_57 (by decide) ?_
          refine lv_goto (tgt := 62) hx hb dL_layers_58 (by decide) ?_
          refine lv_istore (lv' := [(9, .int (1 : Int32)), (0, .ref (ad 0)), (1, .ref q1), (2, .ref q2), (3, .int x3), (4, .ref a1), (5, .int x5), (6, .int x6), (7, .int x7), (8, .int x8)]) hx hb dL_layers_62 hl (by decide) rfl (fun ls hl => ?_)
          refine lv_iconst (v := 0) hx hb dL_layers_64 (by decide) ?_
          refine lv_istore (lv' := [(10, .int (0 : Int32)), (9, .int (1 : Int32)), (0, .ref (ad 0)), (1, .ref q1), (2, .ref q2), (3, .int x3), (4, .ref a1), (5, .int x5), (6, .int x6), (7, .int x7), (8, .int x8)]) hx hb dL_layers_65 hl (by decide) rfl (fun ls hl => ?_)
          have hl9 := lv_sub (l' := [(0, .ref (ad 0)), (1, .ref q1), (2, .ref q2), (3, .int x3), (4, .ref a1), (5, .int x5), (6, .int x6), (7, .int x7), (8, .int x8), (9, .int (1 : Int32)), (10, .int (0 : Int32))]) hl [2, 3, 4, 5, 6, 7, 8, 9, 10, 1, 0] rfl
          have hP9 : va_P D vwCl ([(q1, .inl (C 0, 256, .inl t1)), (q2, .inl (C 0, 256, .inl t2)), (a1, .inl (C 0, n1, .inl ta1))] ++ wK C ad d) H := bd_P (lc := [(q1, .inl (C 0, 256, .inl t1)), (q2, .inl (C 0, 256, .inl t2)), (a1, .inl (C 0, n1, .inl ta1))]) hP [0, 1, 2] rfl
          have hD9 : va_D A ([(q1, .inl (C 0, 256, .inl t1)), (q2, .inl (C 0, 256, .inl t2)), (a1, .inl (C 0, n1, .inl ta1))] ++ wK C ad d) := bd_D (lc := [(q1, .inl (C 0, 256, .inl t1)), (q2, .inl (C 0, 256, .inl t2)), (a1, .inl (C 0, n1, .inl ta1))]) hD [0, 1, 2] rfl (by decide)
          obtain ⟨nn9, hwp⟩ := hwp
          refine HL67 a1 n1 x3 x5 x6 x7 x8 d ta1 _ (fun x9 H locs ls hl hP hD hS hwp => ?_) nn9 (1 : Int32) (0 : Int32) H locs ls hl9 hP9 hD9 hS hwp
          refine lv_iload hx hb dL_layers_131 (lv_at hl 9 rfl) ?_
          refine lv_if_ne (tgt := 139) hx hb dL_layers_133 (by decide) (fun c133 => ?_) (fun c133 => ?_)
          · have hwp := hwp.1 c133
            refine lv_aload hx hb dL_layers_139 (lv_at hl 4 rfl) ?_
            refine lv_iload hx hb dL_layers_141 (lv_at hl 8 rfl) ?_
            refine lv_iload hx hb dL_layers_143 (lv_at hl 6 rfl) ?_
            obtain ⟨hi145, hwp⟩ := hwp
            refine va_iast (D := D) hx hb hK hP hD hS 2 0 rfl rfl hi145 dL_layers_145 (fun H locs hP hD hS => ?_)
            have hP : va_P D vwCl ([(q1, .inl (C 0, 256, .inl t1)), (q2, .inl (C 0, 256, .inl t2)), (a1, .inl (C 0, n1, .inl (upd ta1 x8.toNatClampNeg x6)))] ++ wK C ad d) H := hP
            have hD : va_D A ([(q1, .inl (C 0, 256, .inl t1)), (q2, .inl (C 0, 256, .inl t2)), (a1, .inl (C 0, n1, .inl (upd ta1 x8.toNatClampNeg x6)))] ++ wK C ad d) := hD
            refine lv_iinc (v := x7 + 1) (lv' := [(7, .int (x7 + 1)), (0, .ref (ad 0)), (1, .ref q1), (2, .ref q2), (3, .int x3), (4, .ref a1), (5, .int x5), (6, .int x6), (8, .int x8), (9, .int x9)]) hx hb dL_layers_146 hl (k := 7) rfl rfl (by decide) rfl (fun ls hl => ?_)
            refine lv_iinc (v := x8 + 1) (lv' := [(8, .int (x8 + 1)), (7, .int (x7 + 1)), (0, .ref (ad 0)), (1, .ref q1), (2, .ref q2), (3, .int x3), (4, .ref a1), (5, .int x5), (6, .int x6), (9, .int x9)]) hx hb dL_layers_149 hl (k := 8) rfl rfl (by decide) rfl (fun ls hl => ?_)
            refine lv_goto (tgt := 43) hx hb dL_layers_152 (by decide) ?_
            have hl9 := lv_sub (l' := [(0, .ref (ad 0)), (1, .ref q1), (2, .ref q2), (3, .int x3), (4, .ref a1), (5, .int x5), (6, .int x6), (7, .int (x7 + 1)), (8, .int (x8 + 1))]) hl [2, 3, 4, 5, 6, 7, 8, 1, 0] rfl
            have hP9 : va_P D vwCl ([(q1, .inl (C 0, 256, .inl t1)), (q2, .inl (C 0, 256, .inl t2)), (a1, .inl (C 0, n1, .inl (upd ta1 x8.toNatClampNeg x6)))] ++ wK C ad d) H := bd_P (lc := [(q1, .inl (C 0, 256, .inl t1)), (q2, .inl (C 0, 256, .inl t2)), (a1, .inl (C 0, n1, .inl (upd ta1 x8.toNatClampNeg x6)))]) hP [0, 1, 2] rfl
            have hD9 : va_D A ([(q1, .inl (C 0, 256, .inl t1)), (q2, .inl (C 0, 256, .inl t2)), (a1, .inl (C 0, n1, .inl (upd ta1 x8.toNatClampNeg x6)))] ++ wK C ad d) := bd_D (lc := [(q1, .inl (C 0, 256, .inl t1)), (q2, .inl (C 0, 256, .inl t2)), (a1, .inl (C 0, n1, .inl (upd ta1 x8.toNatClampNeg x6)))]) hD [0, 1, 2] rfl (by decide)
            exact ih (x7 + 1) (x8 + 1) (upd ta1 x8.toNatClampNeg x6) H locs ls hl9 hP9 hD9 hS hwp
          · have hwp := hwp.2 c133
            refine lv_goto (tgt := 149) hx hb dL_layers_136 (by decide) ?_
            refine lv_iinc (v := x8 + 1) (lv' := [(8, .int (x8 + 1)), (0, .ref (ad 0)), (1, .ref q1), (2, .ref q2), (3, .int x3), (4, .ref a1), (5, .int x5), (6, .int x6), (7, .int x7), (9, .int x9)]) hx hb dL_layers_149 hl (k := 8) rfl rfl (by decide) rfl (fun ls hl => ?_)
            refine lv_goto (tgt := 43) hx hb dL_layers_152 (by decide) ?_
            have hl9 := lv_sub (l' := [(0, .ref (ad 0)), (1, .ref q1), (2, .ref q2), (3, .int x3), (4, .ref a1), (5, .int x5), (6, .int x6), (7, .int x7), (8, .int (x8 + 1))]) hl [1, 2, 3, 4, 5, 6, 7, 8, 0] rfl
            have hP9 : va_P D vwCl ([(q1, .inl (C 0, 256, .inl t1)), (q2, .inl (C 0, 256, .inl t2)), (a1, .inl (C 0, n1, .inl ta1))] ++ wK C ad d) H := bd_P (lc := [(q1, .inl (C 0, 256, .inl t1)), (q2, .inl (C 0, 256, .inl t2)), (a1, .inl (C 0, n1, .inl ta1))]) hP [0, 1, 2] rfl
            have hD9 : va_D A ([(q1, .inl (C 0, 256, .inl t1)), (q2, .inl (C 0, 256, .inl t2)), (a1, .inl (C 0, n1, .inl ta1))] ++ wK C ad d) := bd_D (lc := [(q1, .inl (C 0, 256, .inl t1)), (q2, .inl (C 0, 256, .inl t2)), (a1, .inl (C 0, n1, .inl ta1))]) hD [0, 1, 2] rfl (by decide)
            exact ih x7 (x8 + 1) ta1 H locs ls hl9 hP9 hD9 hS hwp
  have HL32 : ∀ (a1 : Nat) (n1 : Nat) (x3 : Int32) (k181 : Int32 → DT → (Nat → Int32) → Prop) (hk181 : ∀ (x6 : Int32) (d : DT) (ta1 : Nat → Int32) (H : Heap) (locs : List Loc) (ls : Array Slot), lv_has ls 11 [(0, .ref (ad 0)), (1, .ref q1), (2, .ref q2), (3, .int x3), (4, .ref a1), (6, .int x6)] → va_P D vwCl ([(q1, .inl (C 0, 256, .inl t1)), (q2, .inl (C 0, 256, .inl t2)), (a1, .inl (C 0, n1, .inl ta1))] ++ wK C ad d) H → va_D A ([(q1, .inl (C 0, 256, .inl t1)), (q2, .inl (C 0, 256, .inl t2)), (a1, .inl (C 0, n1, .inl ta1))] ++ wK C ad d) → va_S A s.heap H locs → k181 x6 d ta1 → W p l e (headSpec ws_L_layers rm_L_layers).room s m ([.ref (ad 0), .ref q1, .ref q2, .int p3] : List Value).toArray below meth c H locs 1 256 (MQ below (q_L_layers D C q1 q2 ad t1 t2 Q A) ([.ref (ad 0), .ref q1, .ref q2, .int p3] : List Value).toArray s 1 256 A) (F0 m 181 ls [])) (n32 : Nat) (x5 : Int32) (x6 : Int32) (d : DT) (ta1 : Nat → Int32) (H : Heap) (locs : List Loc) (ls : Array Slot), lv_has ls 11 [(0, .ref (ad 0)), (1, .ref q1), (2, .ref q2), (3, .int x3), (4, .ref a1), (5, .int x5), (6, .int x6)] → va_P D vwCl ([(q1, .inl (C 0, 256, .inl t1)), (q2, .inl (C 0, 256, .inl t2)), (a1, .inl (C 0, n1, .inl ta1))] ++ wK C ad d) H → va_D A ([(q1, .inl (C 0, 256, .inl t1)), (q2, .inl (C 0, 256, .inl t2)), (a1, .inl (C 0, n1, .inl ta1))] ++ wK C ad d) → va_S A s.heap H locs → wp_L_layers_L32 t1 t2 n1 x3 k181 Q n32 x5 x6 d ta1 → W p l e (headSpec ws_L_layers rm_L_layers).room s m ([.ref (ad 0), .ref q1, .ref q2, .int p3] : List Value).toArray below meth c H locs 1 256 (MQ below (q_L_layers D C q1 q2 ad t1 t2 Q A) ([.ref (ad 0), .ref q1, .ref q2, .int p3] : List Value).toArray s 1 256 A) (F0 m 32 ls []) := by
    intro a1 n1 x3 k181 hk181 n32
    induction n32 with
    | zero =>
      intro x5 x6 d ta1 H locs ls hl hP hD hS hwp
      exact False.elim hwp
    | succ n32 ih =>
      intro x5 x6 d ta1 H locs ls hl hP hD hS hwp
      unfold wp_L_layers_L32 at hwp
      refine lv_iload hx hb dL_layers_32 (lv_at hl 5 rfl) ?_
      refine lv_if_le (tgt := 181) hx hb dL_layers_34 (by decide) (fun c34 => ?_) (fun c34 => ?_)
      · have hwp := hwp.1 c34
        have hl9 := lv_sub (l' := [(0, .ref (ad 0)), (1, .ref q1), (2, .ref q2), (3, .int x3), (4, .ref a1), (6, .int x6)]) hl [0, 1, 2, 3, 4, 6] rfl
        have hP9 : va_P D vwCl ([(q1, .inl (C 0, 256, .inl t1)), (q2, .inl (C 0, 256, .inl t2)), (a1, .inl (C 0, n1, .inl ta1))] ++ wK C ad d) H := bd_P (lc := [(q1, .inl (C 0, 256, .inl t1)), (q2, .inl (C 0, 256, .inl t2)), (a1, .inl (C 0, n1, .inl ta1))]) hP [0, 1, 2] rfl
        have hD9 : va_D A ([(q1, .inl (C 0, 256, .inl t1)), (q2, .inl (C 0, 256, .inl t2)), (a1, .inl (C 0, n1, .inl ta1))] ++ wK C ad d) := bd_D (lc := [(q1, .inl (C 0, 256, .inl t1)), (q2, .inl (C 0, 256, .inl t2)), (a1, .inl (C 0, n1, .inl ta1))]) hD [0, 1, 2] rfl (by decide)
        exact hk181 x6 d ta1 H locs ls hl9 hP9 hD9 hS hwp
      · have hwp := hwp.2 c34
        refine lv_iconst (v := 0) hx hb dL_layers_37 (by decide) ?_
        refine lv_istore (lv' := [(7, .int (0 : Int32)), (0, .ref (ad 0)), (1, .ref q1), (2, .ref q2), (3, .int x3), (4, .ref a1), (5, .int x5), (6, .int x6)]) hx hb dL_layers_38 hl (by decide) rfl (fun ls hl => ?_)
        refine lv_iconst (v := 0) hx hb dL_layers_40 (by decide) ?_
        refine lv_istore (lv' := [(8, .int (0 : Int32)), (7, .int (0 : Int32)), (0, .ref (ad 0)), (1, .ref q1), (2, .ref q2), (3, .int x3), (4, .ref a1), (5, .int x5), (6, .int x6)]) hx hb dL_layers_41 hl (by decide) rfl (fun ls hl => ?_)
        have hl9 := lv_sub (l' := [(0, .ref (ad 0)), (1, .ref q1), (2, .ref q2), (3, .int x3), (4, .ref a1), (5, .int x5), (6, .int x6), (7, .int (0 : Int32)), (8, .int (0 : Int32))]) hl [2, 3, 4, 5, 6, 7, 8, 1, 0] rfl
        have hP9 : va_P D vwCl ([(q1, .inl (C 0, 256, .inl t1)), (q2, .inl (C 0, 256, .inl t2)), (a1, .inl (C 0, n1, .inl ta1))] ++ wK C ad d) H := bd_P (lc := [(q1, .inl (C 0, 256, .inl t1)), (q2, .inl (C 0, 256, .inl t2)), (a1, .inl (C 0, n1, .inl ta1))]) hP [0, 1, 2] rfl
        have hD9 : va_D A ([(q1, .inl (C 0, 256, .inl t1)), (q2, .inl (C 0, 256, .inl t2)), (a1, .inl (C 0, n1, .inl ta1))] ++ wK C ad d) := bd_D (lc := [(q1, .inl (C 0, 256, .inl t1)), (q2, .inl (C 0, 256, .inl t2)), (a1, .inl (C 0, n1, .inl ta1))]) hD [0, 1, 2] rfl (by decide)
        obtain ⟨nn9, hwp⟩ := hwp
        refine HL43 a1 n1 x3 x5 x6 d _ (fun x7 ta1 H locs ls hl hP hD hS hwp => ?_) nn9 (0 : Int32) (0 : Int32) ta1 H locs ls hl9 hP9 hD9 hS hwp
        refine lv_aload_n hx hb dL_layers_155 rfl (lv_at hl 0 rfl) ?_
        refine lv_iload hx hb dL_layers_156 (lv_at hl 6 rfl) ?_
        have hPc : va_P D vwCl ([] ++ wK C ad d) H := bd_P (lc := []) hP [] rfl
        have hDc : va_D A ([] ++ wK C ad d) := bd_D (lc := []) hD [] rfl (by decide)
        have hFc : ∀ q, va_A ([] ++ wK C ad d) H.size q → A q := bd_free (lc := []) hD hS hA [] rfl
        refine va_calli (va_runV (As := [.int x6]) (rest := []) ⟨hx, hb, hml, hown, hts⟩ (mk_X10_layerSize l hst D C ad x6 d H.size _ hwp) (cwV 1 hts gc_L_155 rfl rfl rfl (by decide +kernel) ⟨Nat.le_of_ble_eq_true rfl, Nat.le_of_ble_eq_true rfl⟩) ⟨fun a U g mk q => by obtain ⟨q0, q1, qP, qK, qD, qT⟩ := q; exact ⟨q0, q1, qP, va_K.moved (u := U) (U := U.calling g mk a) (Vm.Alike.refl U.vm) qK, qD, qT.mv (U := U.calling g mk a) (State.WarmedH.refl U)⟩, va_recv hK hPc (ci := 10) (q0 := 0) rfl rfl, fun U hU hW => ⟨rfl, by rw [hU], by rw [hU]; exact hPc, va_K.moved hW.alike hK, hDc.weaken (fun _ _ _ _ => trivial), hT.call hS hFc hU hW⟩⟩ rfl rfl hl.1 rfl (lv_room (Nat.le_of_ble_eq_true rfl)) dL_layers_158 ⟨Nat.le_of_ble_eq_true rfl, Nat.le_of_ble_eq_true rfl⟩) hS (fun q _ h => hFc q h) hFc (fun r158 u t H1 locs ht hvm hwp hB hz1 hk1 hS => ?_)
        obtain ⟨u158_1, rfl⟩ : ∃ z, z = u := ⟨_, rfl⟩
        obtain ⟨hP1, -, hD1⟩ := hB
        rw [ht] at hP1
        obtain ⟨hP, hD⟩ := bd_join (lr := [(q1, .inl (C 0, 256, .inl t1)), (q2, .inl (C 0, 256, .inl t2)), (a1, .inl (C 0, n1, .inl ta1))]) (l1 := []) (b1 := wK C ad u158_1) hP hD [] [0, 1, 2] rfl rfl (by decide) (by decide) hk1 hFc hP1 hD1
        generalize H1 = H at hP hS ⊢
        have hP : va_P D vwCl ([(q1, .inl (C 0, 256, .inl t1)), (q2, .inl (C 0, 256, .inl t2)), (a1, .inl (C 0, n1, .inl ta1))] ++ wK C ad u158_1) H := hP
        have hD : va_D A ([(q1, .inl (C 0, 256, .inl t1)), (q2, .inl (C 0, 256, .inl t2)), (a1, .inl (C 0, n1, .inl ta1))] ++ wK C ad u158_1) := hD
        refine lv_iload hx hb dL_layers_161 (lv_at hl 7 rfl) ?_
        refine lv_icmp_eq (tgt := 168) hx hb dL_layers_163 (by decide) (fun c163 => ?_) (fun c163 => ?_)
        · have hwp := hwp.1 c163
          refine lv_iload hx hb dL_layers_168 (lv_at hl 5 rfl) ?_
          refine lv_iload hx hb dL_layers_170 (lv_at hl 7 rfl) ?_
          refine lv_isub hx hb dL_layers_172 ?_
          refine lv_topi (fun v173 ev173 => ?_)
          have hwp := hwp v173 ev173
          refine lv_istore (lv' := [(5, .int v173), (0, .ref (ad 0)), (1, .ref q1), (2, .ref q2), (3, .int x3), (4, .ref a1), (6, .int x6), (7, .int x7)]) hx hb dL_layers_173 hl (by decide) rfl (fun ls hl => ?_)
          refine lv_iinc (v := x6 + 1) (lv' := [(6, .int (x6 + 1)), (5, .int v173), (0, .ref (ad 0)), (1, .ref q1), (2, .ref q2), (3, .int x3), (4, .ref a1), (7, .int x7)]) hx hb dL_layers_175 hl (k := 6) rfl rfl (by decide) rfl (fun ls hl => ?_)
          refine lv_goto (tgt := 32) hx hb dL_layers_178 (by decide) ?_
          have hl9 := lv_sub (l' := [(0, .ref (ad 0)), (1, .ref q1), (2, .ref q2), (3, .int x3), (4, .ref a1), (5, .int v173), (6, .int (x6 + 1))]) hl [2, 3, 4, 5, 6, 1, 0] rfl
          have hP9 : va_P D vwCl ([(q1, .inl (C 0, 256, .inl t1)), (q2, .inl (C 0, 256, .inl t2)), (a1, .inl (C 0, n1, .inl ta1))] ++ wK C ad u158_1) H := bd_P (lc := [(q1, .inl (C 0, 256, .inl t1)), (q2, .inl (C 0, 256, .inl t2)), (a1, .inl (C 0, n1, .inl ta1))]) hP [0, 1, 2] rfl
          have hD9 : va_D A ([(q1, .inl (C 0, 256, .inl t1)), (q2, .inl (C 0, 256, .inl t2)), (a1, .inl (C 0, n1, .inl ta1))] ++ wK C ad u158_1) := bd_D (lc := [(q1, .inl (C 0, 256, .inl t1)), (q2, .inl (C 0, 256, .inl t2)), (a1, .inl (C 0, n1, .inl ta1))]) hD [0, 1, 2] rfl (by decide)
          exact ih v173 (x6 + 1) u158_1 ta1 H locs ls hl9 hP9 hD9 hS hwp
        · have hwp := hwp.2 c163
          refine lv_iconst (v := 0) hx hb dL_layers_166 (by decide) ?_
          have hP9 : va_P D vwCl ([(q1, .inl (C 0, 256, .inl t1)), (q2, .inl (C 0, 256, .inl t2))] ++ wK C ad u158_1) H := bd_P (lc := [(q1, .inl (C 0, 256, .inl t1)), (q2, .inl (C 0, 256, .inl t2))]) hP [0, 1] rfl
          have hD9 : va_D A ([(q1, .inl (C 0, 256, .inl t1)), (q2, .inl (C 0, 256, .inl t2))] ++ wK C ad u158_1) := bd_D (lc := [(q1, .inl (C 0, 256, .inl t1)), (q2, .inl (C 0, 256, .inl t2))]) hD [0, 1] rfl (by decide)
          exact W.zret (v := (0 : Int32)) (ty := .boolean) hx hb hr rfl (fun t ht hW => ⟨⟨(0 : Int32), (u158_1), rfl, hwp, by rw [ht]; exact hP9, va_K.moved hW.alike hK, hD9⟩, hS.F ht⟩) hS.2.2 dL_layers_167
  have HL222 : ∀ (a1 : Nat) (n1 : Nat) (x3 : Int32) (x7 : Int32) (ta1 : Nat → Int32) (k269 : Int32 → DT → Prop) (hk269 : ∀ (x8 : Int32) (d : DT) (H : Heap) (locs : List Loc) (ls : Array Slot), lv_has ls 11 [(0, .ref (ad 0)), (1, .ref q1), (2, .ref q2), (3, .int x3), (4, .ref a1), (7, .int x7), (8, .int x8)] → va_P D vwCl ([(q1, .inl (C 0, 256, .inl t1)), (q2, .inl (C 0, 256, .inl t2)), (a1, .inl (C 0, n1, .inl ta1))] ++ wK C ad d) H → va_D A ([(q1, .inl (C 0, 256, .inl t1)), (q2, .inl (C 0, 256, .inl t2)), (a1, .inl (C 0, n1, .inl ta1))] ++ wK C ad d) → va_S A s.heap H locs → k269 x8 d → W p l e (headSpec ws_L_layers rm_L_layers).room s m ([.ref (ad 0), .ref q1, .ref q2, .int p3] : List Value).toArray below meth c H locs 1 256 (MQ below (q_L_layers D C q1 q2 ad t1 t2 Q A) ([.ref (ad 0), .ref q1, .ref q2, .int p3] : List Value).toArray s 1 256 A) (F0 m 269 ls [])) (n222 : Nat) (x8 : Int32) (x9 : Int32) (d : DT) (H : Heap) (locs : List Loc) (ls : Array Slot), lv_has ls 11 [(0, .ref (ad 0)), (1, .ref q1), (2, .ref q2), (3, .int x3), (4, .ref a1), (7, .int x7), (8, .int x8), (9, .int x9)] → va_P D vwCl ([(q1, .inl (C 0, 256, .inl t1)), (q2, .inl (C 0, 256, .inl t2)), (a1, .inl (C 0, n1, .inl ta1))] ++ wK C ad d) H → va_D A ([(q1, .inl (C 0, 256, .inl t1)), (q2, .inl (C 0, 256, .inl t2)), (a1, .inl (C 0, n1, .inl ta1))] ++ wK C ad d) → va_S A s.heap H locs → wp_L_layers_L222 t1 t2 n1 x3 x7 ta1 k269 Q n222 x8 x9 d → W p l e (headSpec ws_L_layers rm_L_layers).room s m ([.ref (ad 0), .ref q1, .ref q2, .int p3] : List Value).toArray below meth c H locs 1 256 (MQ below (q_L_layers D C q1 q2 ad t1 t2 Q A) ([.ref (ad 0), .ref q1, .ref q2, .int p3] : List Value).toArray s 1 256 A) (F0 m 222 ls []) := by
    intro a1 n1 x3 x7 ta1 k269 hk269 n222
    induction n222 with
    | zero =>
      intro x8 x9 d H locs ls hl hP hD hS hwp
      exact False.elim hwp
    | succ n222 ih =>
      intro x8 x9 d H locs ls hl hP hD hS hwp
      unfold wp_L_layers_L222 at hwp
      refine lv_iload hx hb dL_layers_222 (lv_at hl 7 rfl) ?_
      refine lv_iload_n hx hb dL_layers_224 rfl (lv_at hl 3 rfl) ?_
      refine lv_icmp_ge (tgt := 269) hx hb dL_layers_225 (by decide) (fun c225 => ?_) (fun c225 => ?_)
      · have hwp := hwp.1 c225
        have hl9 := lv_sub (l' := [(0, .ref (ad 0)), (1, .ref q1), (2, .ref q2), (3, .int x3), (4, .ref a1), (7, .int x7), (8, .int x8)]) hl [0, 1, 2, 3, 4, 5, 6] rfl
        have hP9 : va_P D vwCl ([(q1, .inl (C 0, 256, .inl t1)), (q2, .inl (C 0, 256, .inl t2)), (a1, .inl (C 0, n1, .inl ta1))] ++ wK C ad d) H := bd_P (lc := [(q1, .inl (C 0, 256, .inl t1)), (q2, .inl (C 0, 256, .inl t2)), (a1, .inl (C 0, n1, .inl ta1))]) hP [0, 1, 2] rfl
        have hD9 : va_D A ([(q1, .inl (C 0, 256, .inl t1)), (q2, .inl (C 0, 256, .inl t2)), (a1, .inl (C 0, n1, .inl ta1))] ++ wK C ad d) := bd_D (lc := [(q1, .inl (C 0, 256, .inl t1)), (q2, .inl (C 0, 256, .inl t2)), (a1, .inl (C 0, n1, .inl ta1))]) hD [0, 1, 2] rfl (by decide)
        exact hk269 x8 d H locs ls hl9 hP9 hD9 hS hwp
      · have hwp := hwp.2 c225
        refine lv_aload_n hx hb dL_layers_228 rfl (lv_at hl 1 rfl) ?_
        refine lv_iload hx hb dL_layers_229 (lv_at hl 7 rfl) ?_
        obtain ⟨hi231, hwp⟩ := hwp
        refine va_iald (D := D) hx hb hK hP 0 0 rfl rfl hi231 dL_layers_231 ?_
        refine lv_aload_n hx hb dL_layers_232 rfl (lv_at hl 0 rfl) ?_
        refine lv_iload hx hb dL_layers_233 (lv_at hl 5 rfl) ?_
        refine lv_iconst (v := 1) hx hb dL_layers_235 (by decide) ?_
        have hPc : va_P D vwCl ([] ++ wK C ad d) H := bd_P (lc := []) hP [] rfl
        have hDc : va_D A ([] ++ wK C ad d) := bd_D (lc := []) hD [] rfl (by decide)
        have hFc : ∀ q, va_A ([] ++ wK C ad d) H.size q → A q := bd_free (lc := []) hD hS hA [] rfl
        refine va_calli (va_runS (As := [.ref (ad 0), .int x7, .int (1 : Int32)]) (rest := [.int (t1 x9.toNatClampNeg)]) ⟨hx, hb, hml, hown, hts⟩ (met_L_sum l hst D C ad x7 (1 : Int32) d H.size _ hwp) (va_cwS 3 hts gc_L_101 rfl rfl rfl (by decide +kernel) ⟨Nat.le_of_ble_eq_true rfl, Nat.le_of_ble_eq_true rfl⟩) ⟨fun a U g mk q => by obtain ⟨q0, q1, qP, qK, qD, qT⟩ := q; exact ⟨q0, q1, qP, va_K.moved (u := U) (U := U.calling g mk a) (Vm.Alike.refl U.vm) qK, qD, qT.mv (U := U.calling g mk a) (State.WarmedH.refl U)⟩, fun U hU hW => ⟨rfl, by rw [hU], by rw [hU]; exact hPc, va_K.moved hW.alike hK, hDc.weaken (fun _ _ _ _ => trivial), hT.call hS hFc hU hW⟩⟩ rfl rfl hl.1 rfl (lv_room (Nat.le_of_ble_eq_true rfl)) dL_layers_236 ⟨Nat.le_of_ble_eq_true rfl, Nat.le_of_ble_eq_true rfl⟩) hS (fun q _ h => hFc q h) hFc (fun r236 u t H1 locs ht hvm hwp hB hz1 hk1 hS => ?_)
        obtain ⟨u236_6, rfl⟩ : ∃ z, z = u := ⟨_, rfl⟩
        obtain ⟨hP1, -, hD1⟩ := hB
        rw [ht] at hP1
        obtain ⟨hP, hD⟩ := bd_join (lr := [(q1, .inl (C 0, 256, .inl t1)), (q2, .inl (C 0, 256, .inl t2)), (a1, .inl (C 0, n1, .inl ta1))]) (l1 := []) (b1 := wK C ad u236_6) hP hD [] [0, 1, 2] rfl rfl (by decide) (by decide) hk1 hFc hP1 hD1
        generalize H1 = H at hP hS ⊢
        have hP : va_P D vwCl ([(q1, .inl (C 0, 256, .inl t1)), (q2, .inl (C 0, 256, .inl t2)), (a1, .inl (C 0, n1, .inl ta1))] ++ wK C ad u236_6) H := hP
        have hD : va_D A ([(q1, .inl (C 0, 256, .inl t1)), (q2, .inl (C 0, 256, .inl t2)), (a1, .inl (C 0, n1, .inl ta1))] ++ wK C ad u236_6) := hD
        refine lv_icmp_ne (tgt := 263) hx hb dL_layers_239 (by decide) (fun c239 => ?_) (fun c239 => ?_)
        · have hwp := hwp.1 c239
          refine lv_iinc (v := x9 + 1) (lv' := [(9, .int (x9 + 1)), (0, .ref (ad 0)), (1, .ref q1), (2, .ref q2), (3, .int x3), (4, .ref a1), (7, .int x7), (8, .int x8)]) hx hb dL_layers_263 hl (k := 7) rfl rfl (by decide) rfl (fun ls hl => ?_)
          refine lv_goto (tgt := 222) hx hb dL_layers_266 (by decide) ?_
          have hl9 := lv_sub (l' := [(0, .ref (ad 0)), (1, .ref q1), (2, .ref q2), (3, .int x3), (4, .ref a1), (7, .int x7), (8, .int x8), (9, .int (x9 + 1))]) hl [1, 2, 3, 4, 5, 6, 7, 0] rfl
          have hP9 : va_P D vwCl ([(q1, .inl (C 0, 256, .inl t1)), (q2, .inl (C 0, 256, .inl t2)), (a1, .inl (C 0, n1, .inl ta1))] ++ wK C ad u236_6) H := bd_P (lc := [(q1, .inl (C 0, 256, .inl t1)), (q2, .inl (C 0, 256, .inl t2)), (a1, .inl (C 0, n1, .inl ta1))]) hP [0, 1, 2] rfl
          have hD9 : va_D A ([(q1, .inl (C 0, 256, .inl t1)), (q2, .inl (C 0, 256, .inl t2)), (a1, .inl (C 0, n1, .inl ta1))] ++ wK C ad u236_6) := bd_D (lc := [(q1, .inl (C 0, 256, .inl t1)), (q2, .inl (C 0, 256, .inl t2)), (a1, .inl (C 0, n1, .inl ta1))]) hD [0, 1, 2] rfl (by decide)
          exact ih x8 (x9 + 1) u236_6 H locs ls hl9 hP9 hD9 hS hwp
        · have hwp := hwp.2 c239
          refine lv_aload_n hx hb dL_layers_242 rfl (lv_at hl 2 rfl) ?_
          refine lv_iload hx hb dL_layers_243 (lv_at hl 7 rfl) ?_
          obtain ⟨hi245, hwp⟩ := hwp
          refine va_iald (D := D) hx hb hK hP 1 0 rfl rfl hi245 dL_layers_245 ?_
          refine lv_aload_n hx hb dL_layers_246 rfl (lv_at hl 0 rfl) ?_
          refine lv_iload hx hb dL_layers_247 (lv_at hl 5 rfl) ?_
          refine lv_iconst (v := 2) hx hb dL_layers_249 (by decide) ?_
          have hPc : va_P D vwCl ([] ++ wK C ad u236_6) H := bd_P (lc := []) hP [] rfl
          have hDc : va_D A ([] ++ wK C ad u236_6) := bd_D (lc := []) hD [] rfl (by decide)
          have hFc : ∀ q, va_A ([] ++ wK C ad u236_6) H.size q → A q := bd_free (lc := []) hD hS hA [] rfl
          refine va_calli (va_runS (As := [.ref (ad 0), .int x7, .int (2 : Int32)]) (rest := [.int (t2 x9.toNatClampNeg)]) ⟨hx, hb, hml, hown, hts⟩ (met_L_sum l hst D C ad x7 (2 : Int32) u236_6 H.size _ hwp) (va_cwS 3 hts gc_L_101 rfl rfl rfl (by decide +kernel) ⟨Nat.le_of_ble_eq_true rfl, Nat.le_of_ble_eq_true rfl⟩) ⟨fun a U g mk q => by obtain ⟨q0, q1, qP, qK, qD, qT⟩ := q; exact ⟨q0, q1, qP, va_K.moved (u := U) (U := U.calling g mk a) (Vm.Alike.refl U.vm) qK, qD, qT.mv (U := U.calling g mk a) (State.WarmedH.refl U)⟩, fun U hU hW => ⟨rfl, by rw [hU], by rw [hU]; exact hPc, va_K.moved hW.alike hK, hDc.weaken (fun _ _ _ _ => trivial), hT.call hS hFc hU hW⟩⟩ rfl rfl hl.1 rfl (lv_room (Nat.le_of_ble_eq_true rfl)) dL_layers_250 ⟨Nat.le_of_ble_eq_true rfl, Nat.le_of_ble_eq_true rfl⟩) hS (fun q _ h => hFc q h) hFc (fun r250 u t H1 locs ht hvm hwp hB hz1 hk1 hS => ?_)
          obtain ⟨u250_7, rfl⟩ : ∃ z, z = u := ⟨_, rfl⟩
          obtain ⟨hP1, -, hD1⟩ := hB
          rw [ht] at hP1
          obtain ⟨hP, hD⟩ := bd_join (lr := [(q1, .inl (C 0, 256, .inl t1)), (q2, .inl (C 0, 256, .inl t2)), (a1, .inl (C 0, n1, .inl ta1))]) (l1 := []) (b1 := wK C ad u250_7) hP hD [] [0, 1, 2] rfl rfl (by decide) (by decide) hk1 hFc hP1 hD1
          generalize H1 = H at hP hS ⊢
          have hP : va_P D vwCl ([(q1, .inl (C 0, 256, .inl t1)), (q2, .inl (C 0, 256, .inl t2)), (a1, .inl (C 0, n1, .inl ta1))] ++ wK C ad u250_7) H := hP
          have hD : va_D A ([(q1, .inl (C 0, 256, .inl t1)), (q2, .inl (C 0, 256, .inl t2)), (a1, .inl (C 0, n1, .inl ta1))] ++ wK C ad u250_7) := hD
          refine lv_icmp_ne (tgt := 263) hx hb dL_layers_253 (by decide) (fun c253 => ?_) (fun c253 => ?_)
          · have hwp := hwp.1 c253
            refine lv_iinc (v := x9 + 1) (lv' := [(9, .int (x9 + 1)), (0, .ref (ad 0)), (1, .ref q1), (2, .ref q2), (3, .int x3), (4, .ref a1), (7, .int x7), (8, .int x8)]) hx hb dL_layers_263 hl (k := 7) rfl rfl (by decide) rfl (fun ls hl => ?_)
            refine lv_goto (tgt := 222) hx hb dL_layers_266 (by decide) ?_
            have hl9 := lv_sub (l' := [(0, .ref (ad 0)), (1, .ref q1), (2, .ref q2), (3, .int x3), (4, .ref a1), (7, .int x7), (8, .int x8), (9, .int (x9 + 1))]) hl [1, 2, 3, 4, 5, 6, 7, 0] rfl
            have hP9 : va_P D vwCl ([(q1, .inl (C 0, 256, .inl t1)), (q2, .inl (C 0, 256, .inl t2)), (a1, .inl (C 0, n1, .inl ta1))] ++ wK C ad u250_7) H := bd_P (lc := [(q1, .inl (C 0, 256, .inl t1)), (q2, .inl (C 0, 256, .inl t2)), (a1, .inl (C 0, n1, .inl ta1))]) hP [0, 1, 2] rfl
            have hD9 : va_D A ([(q1, .inl (C 0, 256, .inl t1)), (q2, .inl (C 0, 256, .inl t2)), (a1, .inl (C 0, n1, .inl ta1))] ++ wK C ad u250_7) := bd_D (lc := [(q1, .inl (C 0, 256, .inl t1)), (q2, .inl (C 0, 256, .inl t2)), (a1, .inl (C 0, n1, .inl ta1))]) hD [0, 1, 2] rfl (by decide)
            exact ih x8 (x9 + 1) u250_7 H locs ls hl9 hP9 hD9 hS hwp
          · have hwp := hwp.2 c253
            refine lv_aload hx hb dL_layers_256 (lv_at hl 4 rfl) ?_
            refine lv_iload hx hb dL_layers_258 (lv_at hl 7 rfl) ?_
            obtain ⟨hi260, hwp⟩ := hwp
            refine va_iald (D := D) hx hb hK hP 2 0 rfl rfl hi260 dL_layers_260 ?_
            refine lv_topi (fun v261 ev261 => ?_)
            have hwp := hwp v261 ev261
            refine lv_istore (lv' := [(8, .int v261), (0, .ref (ad 0)), (1, .ref q1), (2, .ref q2), (3, .int x3), (4, .ref a1), (7, .int x7), (9, .int x9)]) hx hb dL_layers_261 hl (by decide) rfl (fun ls hl => ?_)
            refine lv_iinc (v := x9 + 1) (lv' := [(9, .int (x9 + 1)), (8, .int v261), (0, .ref (ad 0)), (1, .ref q1), (2, .ref q2), (3, .int x3), (4, .ref a1), (7, .int x7)]) hx hb dL_layers_263 hl (k := 7) rfl rfl (by decide) rfl (fun ls hl => ?_)
            refine lv_goto (tgt := 222) hx hb dL_layers_266 (by decide) ?_
            have hl9 := lv_sub (l' := [(0, .ref (ad 0)), (1, .ref q1), (2, .ref q2), (3, .int x3), (4, .ref a1), (7, .int x7), (8, .int v261), (9, .int (x9 + 1))]) hl [2, 3, 4, 5, 6, 7, 1, 0] rfl
            have hP9 : va_P D vwCl ([(q1, .inl (C 0, 256, .inl t1)), (q2, .inl (C 0, 256, .inl t2)), (a1, .inl (C 0, n1, .inl ta1))] ++ wK C ad u250_7) H := bd_P (lc := [(q1, .inl (C 0, 256, .inl t1)), (q2, .inl (C 0, 256, .inl t2)), (a1, .inl (C 0, n1, .inl ta1))]) hP [0, 1, 2] rfl
            have hD9 : va_D A ([(q1, .inl (C 0, 256, .inl t1)), (q2, .inl (C 0, 256, .inl t2)), (a1, .inl (C 0, n1, .inl ta1))] ++ wK C ad u250_7) := bd_D (lc := [(q1, .inl (C 0, 256, .inl t1)), (q2, .inl (C 0, 256, .inl t2)), (a1, .inl (C 0, n1, .inl ta1))]) hD [0, 1, 2] rfl (by decide)
            exact ih v261 (x9 + 1) u250_7 H locs ls hl9 hP9 hD9 hS hwp
  have HL195 : ∀ (a1 : Nat) (n1 : Nat) (x3 : Int32) (ta1 : Nat → Int32) (n195 : Nat) (x7 : Int32) (d : DT) (H : Heap) (locs : List Loc) (ls : Array Slot), lv_has ls 11 [(0, .ref (ad 0)), (1, .ref q1), (2, .ref q2), (3, .int x3), (4, .ref a1), (7, .int x7)] → va_P D vwCl ([(q1, .inl (C 0, 256, .inl t1)), (q2, .inl (C 0, 256, .inl t2)), (a1, .inl (C 0, n1, .inl ta1))] ++ wK C ad d) H → va_D A ([(q1, .inl (C 0, 256, .inl t1)), (q2, .inl (C 0, 256, .inl t2)), (a1, .inl (C 0, n1, .inl ta1))] ++ wK C ad d) → va_S A s.heap H locs → wp_L_layers_L195 t1 t2 n1 x3 ta1 Q n195 x7 d → W p l e (headSpec ws_L_layers rm_L_layers).room s m ([.ref (ad 0), .ref q1, .ref q2, .int p3] : List Value).toArray below meth c H locs 1 256 (MQ below (q_L_layers D C q1 q2 ad t1 t2 Q A) ([.ref (ad 0), .ref q1, .ref q2, .int p3] : List Value).toArray s 1 256 A) (F0 m 195 ls []) := by
    intro a1 n1 x3 ta1 n195
    induction n195 with
    | zero =>
      intro x7 d H locs ls hl hP hD hS hwp
      exact False.elim hwp
    | succ n195 ih =>
      intro x7 d H locs ls hl hP hD hS hwp
      unfold wp_L_layers_L195 at hwp
      refine lv_iload hx hb dL_layers_195 (lv_at hl 5 rfl) ?_
      refine lv_iconst (v := 1) hx hb dL_layers_197 (by decide) ?_
      refine lv_aload_n hx hb dL_layers_198 rfl (lv_at hl 0 rfl) ?_
      refine lv_iconst (v := 0) hx hb dL_layers_199 (by decide) ?_
      have hPc : va_P D vwCl ([] ++ wK C ad d) H := bd_P (lc := []) hP [] rfl
      have hDc : va_D A ([] ++ wK C ad d) := bd_D (lc := []) hD [] rfl (by decide)
      have hFc : ∀ q, va_A ([] ++ wK C ad d) H.size q → A q := bd_free (lc := []) hD hS hA [] rfl
      refine va_calli (va_runV (As := [.int (0 : Int32)]) (rest := [.int (1 : Int32), .int x7]) ⟨hx, hb, hml, hown, hts⟩ (mk_X10_property l hst D C ad (0 : Int32) d H.size _ hwp) (cwV 1 hts gc_L_94 rfl rfl rfl (by decide +kernel) ⟨Nat.le_of_ble_eq_true rfl, Nat.le_of_ble_eq_true rfl⟩) ⟨fun a U g mk q => by obtain ⟨q0, q1, qP, qK, qD, qT⟩ := q; exact ⟨q0, q1, qP, va_K.moved (u := U) (U := U.calling g mk a) (Vm.Alike.refl U.vm) qK, qD, qT.mv (U := U.calling g mk a) (State.WarmedH.refl U)⟩, va_recv hK hPc (ci := 10) (q0 := 0) rfl rfl, fun U hU hW => ⟨rfl, by rw [hU], by rw [hU]; exact hPc, va_K.moved hW.alike hK, hDc.weaken (fun _ _ _ _ => trivial), hT.call hS hFc hU hW⟩⟩ rfl rfl hl.1 rfl (lv_room (Nat.le_of_ble_eq_true rfl)) dL_layers_200 ⟨Nat.le_of_ble_eq_true rfl, Nat.le_of_ble_eq_true rfl⟩) hS (fun q _ h => hFc q h) hFc (fun r200 u t H1 locs ht hvm hwp hB hz1 hk1 hS => ?_)
      obtain ⟨u200_3, rfl⟩ : ∃ z, z = u := ⟨_, rfl⟩
      obtain ⟨hP1, -, hD1⟩ := hB
      rw [ht] at hP1
      obtain ⟨hP, hD⟩ := bd_join (lr := [(q1, .inl (C 0, 256, .inl t1)), (q2, .inl (C 0, 256, .inl t2)), (a1, .inl (C 0, n1, .inl ta1))]) (l1 := []) (b1 := wK C ad u200_3) hP hD [] [0, 1, 2] rfl rfl (by decide) (by decide) hk1 hFc hP1 hD1
      generalize H1 = H at hP hS ⊢
      have hP : va_P D vwCl ([(q1, .inl (C 0, 256, .inl t1)), (q2, .inl (C 0, 256, .inl t2)), (a1, .inl (C 0, n1, .inl ta1))] ++ wK C ad u200_3) H := hP
      have hD : va_D A ([(q1, .inl (C 0, 256, .inl t1)), (q2, .inl (C 0, 256, .inl t2)), (a1, .inl (C 0, n1, .inl ta1))] ++ wK C ad u200_3) := hD
      refine lv_ishl hx hb dL_layers_203 ?_
      refine lv_icmp_ge (tgt := 297) hx hb dL_layers_204 (by decide) (fun c204 => ?_) (fun c204 => ?_)
      · have hwp := hwp.1 c204
        refine lv_iconst (v := 1) hx hb dL_layers_297 (by decide) ?_
        have hP9 : va_P D vwCl ([(q1, .inl (C 0, 256, .inl t1)), (q2, .inl (C 0, 256, .inl t2))] ++ wK C ad u200_3) H := bd_P (lc := [(q1, .inl (C 0, 256, .inl t1)), (q2, .inl (C 0, 256, .inl t2))]) hP [0, 1] rfl
        have hD9 : va_D A ([(q1, .inl (C 0, 256, .inl t1)), (q2, .inl (C 0, 256, .inl t2))] ++ wK C ad u200_3) := bd_D (lc := [(q1, .inl (C 0, 256, .inl t1)), (q2, .inl (C 0, 256, .inl t2))]) hD [0, 1] rfl (by decide)
        exact W.zret (v := (1 : Int32)) (ty := .boolean) hx hb hr rfl (fun t ht hW => ⟨⟨(1 : Int32), (u200_3), rfl, hwp, by rw [ht]; exact hP9, va_K.moved hW.alike hK, hD9⟩, hS.F ht⟩) hS.2.2 dL_layers_298
      · have hwp := hwp.2 c204
        refine lv_iconst (v := (-1)) hx hb dL_layers_207 (by decide) ?_
        refine lv_istore (lv' := [(8, .int (-1 : Int32)), (0, .ref (ad 0)), (1, .ref q1), (2, .ref q2), (3, .int x3), (4, .ref a1), (7, .int x7)]) hx hb dL_layers_208 hl (by decide) rfl (fun ls hl => ?_)
        refine lv_aload_n hx hb dL_layers_210 rfl (lv_at hl 1 rfl) ?_
        refine lv_iload hx hb dL_layers_211 (lv_at hl 6 rfl) ?_
        have hPc : va_P D vwCl ([] ++ wK C ad u200_3) H := bd_P (lc := []) hP [] rfl
        have hDc : va_D A ([] ++ wK C ad u200_3) := bd_D (lc := []) hD [] rfl (by decide)
        have hFc : ∀ q, va_A ([] ++ wK C ad u200_3) H.size q → A q := bd_free (lc := []) hD hS hA [] rfl
        refine va_calli (va_runS (As := [.ref (ad 0), .int x7]) (rest := []) ⟨hx, hb, hml, hown, hts⟩ (met_L_refusal l hst D C ad x7 u200_3 H.size _ hwp) (va_cwS 2 hts gc_L_116 rfl rfl rfl (by decide +kernel) ⟨Nat.le_of_ble_eq_true rfl, Nat.le_of_ble_eq_true rfl⟩) ⟨fun a U g mk q => by obtain ⟨q0, q1, qP, qK, qD, qT⟩ := q; exact ⟨q0, q1, qP, va_K.moved (u := U) (U := U.calling g mk a) (Vm.Alike.refl U.vm) qK, qD, qT.mv (U := U.calling g mk a) (State.WarmedH.refl U)⟩, fun U hU hW => ⟨rfl, by rw [hU], by rw [hU]; exact hPc, va_K.moved hW.alike hK, hDc.weaken (fun _ _ _ _ => trivial), hT.call hS hFc hU hW⟩⟩ rfl rfl hl.1 rfl (lv_room (Nat.le_of_ble_eq_true rfl)) dL_layers_213 ⟨Nat.le_of_ble_eq_true rfl, Nat.le_of_ble_eq_true rfl⟩) hS (fun q _ h => hFc q h) hFc (fun r213 u t H1 locs ht hvm hwp hB hz1 hk1 hS => ?_)
        obtain ⟨u213_4, rfl⟩ : ∃ z, z = u := ⟨_, rfl⟩
        obtain ⟨hP1, -, hD1⟩ := hB
        rw [ht] at hP1
        obtain ⟨hP, hD⟩ := bd_join (lr := [(q1, .inl (C 0, 256, .inl t1)), (q2, .inl (C 0, 256, .inl t2)), (a1, .inl (C 0, n1, .inl ta1))]) (l1 := []) (b1 := wK C ad u213_4) hP hD [] [0, 1, 2] rfl rfl (by decide) (by decide) hk1 hFc hP1 hD1
        generalize H1 = H at hP hS ⊢
        have hP : va_P D vwCl ([(q1, .inl (C 0, 256, .inl t1)), (q2, .inl (C 0, 256, .inl t2)), (a1, .inl (C 0, n1, .inl ta1))] ++ wK C ad u213_4) H := hP
        have hD : va_D A ([(q1, .inl (C 0, 256, .inl t1)), (q2, .inl (C 0, 256, .inl t2)), (a1, .inl (C 0, n1, .inl ta1))] ++ wK C ad u213_4) := hD
        refine lv_if_ne (tgt := 269) hx hb dL_layers_216 (by decide) (fun c216 => ?_) (fun c216 => ?_)
        · have hwp := hwp.1 c216
          refine lv_aload_n hx hb dL_layers_269 rfl (lv_at hl 1 rfl) ?_
          refine lv_iload hx hb dL_layers_270 (lv_at hl 6 rfl) ?_
          have hPc : va_P D vwCl ([] ++ wK C ad u213_4) H := bd_P (lc := []) hP [] rfl
          have hDc : va_D A ([] ++ wK C ad u213_4) := bd_D (lc := []) hD [] rfl (by decide)
          have hFc : ∀ q, va_A ([] ++ wK C ad u213_4) H.size q → A q := bd_free (lc := []) hD hS hA [] rfl
          refine va_calli (va_runV (As := [.int x7]) (rest := []) ⟨hx, hb, hml, hown, hts⟩ (mk_X10_layerOf l hst D C ad x7 u213_4 H.size _ hwp) (cwV 1 hts gc_L_160 rfl rfl rfl (by decide +kernel) ⟨Nat.le_of_ble_eq_true rfl, Nat.le_of_ble_eq_true rfl⟩) ⟨fun a U g mk q => by obtain ⟨q0, q1, qP, qK, qD, qT⟩ := q; exact ⟨q0, q1, qP, va_K.moved (u := U) (U := U.calling g mk a) (Vm.Alike.refl U.vm) qK, qD, qT.mv (U := U.calling g mk a) (State.WarmedH.refl U)⟩, va_recv hK hPc (ci := 10) (q0 := 0) rfl rfl, fun U hU hW => ⟨rfl, by rw [hU], by rw [hU]; exact hPc, va_K.moved hW.alike hK, hDc.weaken (fun _ _ _ _ => trivial), hT.call hS hFc hU hW⟩⟩ rfl rfl hl.1 rfl (lv_room (Nat.le_of_ble_eq_true rfl)) dL_layers_272 ⟨Nat.le_of_ble_eq_true rfl, Nat.le_of_ble_eq_true rfl⟩) hS (fun q _ h => hFc q h) hFc (fun r272 u t H1 locs ht hvm hwp hB hz1 hk1 hS => ?_)
          obtain ⟨u272_5, rfl⟩ : ∃ z, z = u := ⟨_, rfl⟩
          obtain ⟨hP1, -, hD1⟩ := hB
          rw [ht] at hP1
          obtain ⟨hP, hD⟩ := bd_join (lr := [(q1, .inl (C 0, 256, .inl t1)), (q2, .inl (C 0, 256, .inl t2)), (a1, .inl (C 0, n1, .inl ta1))]) (l1 := []) (b1 := wK C ad u272_5) hP hD [] [0, 1, 2] rfl rfl (by decide) (by decide) hk1 hFc hP1 hD1
          generalize H1 = H at hP hS ⊢
          have hP : va_P D vwCl ([(q1, .inl (C 0, 256, .inl t1)), (q2, .inl (C 0, 256, .inl t2)), (a1, .inl (C 0, n1, .inl ta1))] ++ wK C ad u272_5) H := hP
          have hD : va_D A ([(q1, .inl (C 0, 256, .inl t1)), (q2, .inl (C 0, 256, .inl t2)), (a1, .inl (C 0, n1, .inl ta1))] ++ wK C ad u272_5) := hD
          refine lv_iload hx hb dL_layers_275 (lv_at hl 0 rfl) ?_
          refine lv_icmp_eq (tgt := 282) hx hb dL_layers_277 (by decide) (fun c277 => ?_) (fun c277 => ?_)
          · have hwp := hwp.1 c277
            refine lv_iload hx hb dL_layers_282 (lv_at hl 6 rfl) ?_
            refine lv_iconst (v := 1) hx hb dL_layers_284 (by decide) ?_
            refine lv_iload hx hb dL_layers_285 (lv_at hl 6 rfl) ?_
            refine lv_bipush (v := 16) hx hb dL_layers_287 (by decide) ?_
            refine lv_idiv hx hb dL_layers_289 (by decide) ?_
            refine lv_iadd hx hb dL_layers_290 ?_
            refine lv_iadd hx hb dL_layers_291 ?_
            refine lv_topi (fun v292 ev292 => ?_)
            have hwp := hwp v292 ev292
            refine lv_istore (lv' := [(7, .int v292), (8, .int (-1 : Int32)), (0, .ref (ad 0)), (1, .ref q1), (2, .ref q2), (3, .int x3), (4, .ref a1)]) hx hb dL_layers_292 hl (by decide) rfl (fun ls hl => ?_)
            refine lv_goto (tgt := 195) hx hb dL_layers_294 (by decide) ?_
            have hl9 := lv_sub (l' := [(0, .ref (ad 0)), (1, .ref q1), (2, .ref q2), (3, .int x3), (4, .ref a1), (7, .int v292)]) hl [2, 3, 4, 5, 6, 0] rfl
            have hP9 : va_P D vwCl ([(q1, .inl (C 0, 256, .inl t1)), (q2, .inl (C 0, 256, .inl t2)), (a1, .inl (C 0, n1, .inl ta1))] ++ wK C ad u272_5) H := bd_P (lc := [(q1, .inl (C 0, 256, .inl t1)), (q2, .inl (C 0, 256, .inl t2)), (a1, .inl (C 0, n1, .inl ta1))]) hP [0, 1, 2] rfl
            have hD9 : va_D A ([(q1, .inl (C 0, 256, .inl t1)), (q2, .inl (C 0, 256, .inl t2)), (a1, .inl (C 0, n1, .inl ta1))] ++ wK C ad u272_5) := bd_D (lc := [(q1, .inl (C 0, 256, .inl t1)), (q2, .inl (C 0, 256, .inl t2)), (a1, .inl (C 0, n1, .inl ta1))]) hD [0, 1, 2] rfl (by decide)
            exact ih v292 u272_5 H locs ls hl9 hP9 hD9 hS hwp
          · have hwp := hwp.2 c277
            refine lv_iconst (v := 0) hx hb dL_layers_280 (by decide) ?_
            have hP9 : va_P D vwCl ([(q1, .inl (C 0, 256, .inl t1)), (q2, .inl (C 0, 256, .inl t2))] ++ wK C ad u272_5) H := bd_P (lc := [(q1, .inl (C 0, 256, .inl t1)), (q2, .inl (C 0, 256, .inl t2))]) hP [0, 1] rfl
            have hD9 : va_D A ([(q1, .inl (C 0, 256, .inl t1)), (q2, .inl (C 0, 256, .inl t2))] ++ wK C ad u272_5) := bd_D (lc := [(q1, .inl (C 0, 256, .inl t1)), (q2, .inl (C 0, 256, .inl t2))]) hD [0, 1] rfl (by decide)
            exact W.zret (v := (0 : Int32)) (ty := .boolean) hx hb hr rfl (fun t ht hW => ⟨⟨(0 : Int32), (u272_5), rfl, hwp, by rw [ht]; exact hP9, va_K.moved hW.alike hK, hD9⟩, hS.F ht⟩) hS.2.2 dL_layers_281
        · have hwp := hwp.2 c216
          refine lv_iconst (v := 0) hx hb dL_layers_219 (by decide) ?_
          refine lv_istore (lv' := [(9, .int (0 : Int32)), (8, .int (-1 : Int32)), (0, .ref (ad 0)), (1, .ref q1), (2, .ref q2), (3, .int x3), (4, .ref a1), (7, .int x7)]) hx hb dL_layers_220 hl (by decide) rfl (fun ls hl => ?_)
          have hl9 := lv_sub (l' := [(0, .ref (ad 0)), (1, .ref q1), (2, .ref q2), (3, .int x3), (4, .ref a1), (7, .int x7), (8, .int (-1 : Int32)), (9, .int (0 : Int32))]) hl [2, 3, 4, 5, 6, 7, 1, 0] rfl
          have hP9 : va_P D vwCl ([(q1, .inl (C 0, 256, .inl t1)), (q2, .inl (C 0, 256, .inl t2)), (a1, .inl (C 0, n1, .inl ta1))] ++ wK C ad u213_4) H := bd_P (lc := [(q1, .inl (C 0, 256, .inl t1)), (q2, .inl (C 0, 256, .inl t2)), (a1, .inl (C 0, n1, .inl ta1))]) hP [0, 1, 2] rfl
          have hD9 : va_D A ([(q1, .inl (C 0, 256, .inl t1)), (q2, .inl (C 0, 256, .inl t2)), (a1, .inl (C 0, n1, .inl ta1))] ++ wK C ad u213_4) := bd_D (lc := [(q1, .inl (C 0, 256, .inl t1)), (q2, .inl (C 0, 256, .inl t2)), (a1, .inl (C 0, n1, .inl ta1))]) hD [0, 1, 2] rfl (by decide)
          obtain ⟨nn9, hwp⟩ := hwp
          refine HL222 a1 n1 x3 x7 ta1 _ (fun x8 d H locs ls hl hP hD hS hwp => ?_) nn9 (-1 : Int32) (0 : Int32) u213_4 H locs ls hl9 hP9 hD9 hS hwp
          refine lv_aload_n hx hb dL_layers_269 rfl (lv_at hl 0 rfl) ?_
          refine lv_iload hx hb dL_layers_270 (lv_at hl 5 rfl) ?_
          have hPc : va_P D vwCl ([] ++ wK C ad d) H := bd_P (lc := []) hP [] rfl
          have hDc : va_D A ([] ++ wK C ad d) := bd_D (lc := []) hD [] rfl (by decide)
          have hFc : ∀ q, va_A ([] ++ wK C ad d) H.size q → A q := bd_free (lc := []) hD hS hA [] rfl
          refine va_calli (va_runV (As := [.int x7]) (rest := []) ⟨hx, hb, hml, hown, hts⟩ (mk_X10_layerOf l hst D C ad x7 d H.size _ hwp) (cwV 1 hts gc_L_160 rfl rfl rfl (by decide +kernel) ⟨Nat.le_of_ble_eq_true rfl, Nat.le_of_ble_eq_true rfl⟩) ⟨fun a U g mk q => by obtain ⟨q0, q1, qP, qK, qD, qT⟩ := q; exact ⟨q0, q1, qP, va_K.moved (u := U) (U := U.calling g mk a) (Vm.Alike.refl U.vm) qK, qD, qT.mv (U := U.calling g mk a) (State.WarmedH.refl U)⟩, va_recv hK hPc (ci := 10) (q0 := 0) rfl rfl, fun U hU hW => ⟨rfl, by rw [hU], by rw [hU]; exact hPc, va_K.moved hW.alike hK, hDc.weaken (fun _ _ _ _ => trivial), hT.call hS hFc hU hW⟩⟩ rfl rfl hl.1 rfl (lv_room (Nat.le_of_ble_eq_true rfl)) dL_layers_272 ⟨Nat.le_of_ble_eq_true rfl, Nat.le_of_ble_eq_true rfl⟩) hS (fun q _ h => hFc q h) hFc (fun r272 u t H1 locs ht hvm hwp hB hz1 hk1 hS => ?_)
          obtain ⟨u272_8, rfl⟩ : ∃ z, z = u := ⟨_, rfl⟩
          obtain ⟨hP1, -, hD1⟩ := hB
          rw [ht] at hP1
          obtain ⟨hP, hD⟩ := bd_join (lr := [(q1, .inl (C 0, 256, .inl t1)), (q2, .inl (C 0, 256, .inl t2)), (a1, .inl (C 0, n1, .inl ta1))]) (l1 := []) (b1 := wK C ad u272_8) hP hD [] [0, 1, 2] rfl rfl (by decide) (by decide) hk1 hFc hP1 hD1
          generalize H1 = H at hP hS ⊢
          have hP : va_P D vwCl ([(q1, .inl (C 0, 256, .inl t1)), (q2, .inl (C 0, 256, .inl t2)), (a1, .inl (C 0, n1, .inl ta1))] ++ wK C ad u272_8) H := hP
          have hD : va_D A ([(q1, .inl (C 0, 256, .inl t1)), (q2, .inl (C 0, 256, .inl t2)), (a1, .inl (C 0, n1, .inl ta1))] ++ wK C ad u272_8) := hD
          refine lv_iload hx hb dL_layers_275 (lv_at hl 6 rfl) ?_
          refine lv_icmp_eq (tgt := 282) hx hb dL_layers_277 (by decide) (fun c277 => ?_) (fun c277 => ?_)
          · have hwp := hwp.1 c277
            refine lv_iload hx hb dL_layers_282 (lv_at hl 5 rfl) ?_
            refine lv_iconst (v := 1) hx hb dL_layers_284 (by decide) ?_
            refine lv_iload hx hb dL_layers_285 (lv_at hl 5 rfl) ?_
            refine lv_bipush (v := 16) hx hb dL_layers_287 (by decide) ?_
            refine lv_idiv hx hb dL_layers_289 (by decide) ?_
            refine lv_iadd hx hb dL_layers_290 ?_
            refine lv_iadd hx hb dL_layers_291 ?_
            refine lv_topi (fun v292 ev292 => ?_)
            have hwp := hwp v292 ev292
            refine lv_istore (lv' := [(7, .int v292), (0, .ref (ad 0)), (1, .ref q1), (2, .ref q2), (3, .int x3), (4, .ref a1), (8, .int x8)]) hx hb dL_layers_292 hl (by decide) rfl (fun ls hl => ?_)
            refine lv_goto (tgt := 195) hx hb dL_layers_294 (by decide) ?_
            have hl9 := lv_sub (l' := [(0, .ref (ad 0)), (1, .ref q1), (2, .ref q2), (3, .int x3), (4, .ref a1), (7, .int v292)]) hl [1, 2, 3, 4, 5, 0] rfl
            have hP9 : va_P D vwCl ([(q1, .inl (C 0, 256, .inl t1)), (q2, .inl (C 0, 256, .inl t2)), (a1, .inl (C 0, n1, .inl ta1))] ++ wK C ad u272_8) H := bd_P (lc := [(q1, .inl (C 0, 256, .inl t1)), (q2, .inl (C 0, 256, .inl t2)), (a1, .inl (C 0, n1, .inl ta1))]) hP [0, 1, 2] rfl
            have hD9 : va_D A ([(q1, .inl (C 0, 256, .inl t1)), (q2, .inl (C 0, 256, .inl t2)), (a1, .inl (C 0, n1, .inl ta1))] ++ wK C ad u272_8) := bd_D (lc := [(q1, .inl (C 0, 256, .inl t1)), (q2, .inl (C 0, 256, .inl t2)), (a1, .inl (C 0, n1, .inl ta1))]) hD [0, 1, 2] rfl (by decide)
            exact ih v292 u272_8 H locs ls hl9 hP9 hD9 hS hwp
          · have hwp := hwp.2 c277
            refine lv_iconst (v := 0) hx hb dL_layers_280 (by decide) ?_
            have hP9 : va_P D vwCl ([(q1, .inl (C 0, 256, .inl t1)), (q2, .inl (C 0, 256, .inl t2))] ++ wK C ad u272_8) H := bd_P (lc := [(q1, .inl (C 0, 256, .inl t1)), (q2, .inl (C 0, 256, .inl t2))]) hP [0, 1] rfl
            have hD9 : va_D A ([(q1, .inl (C 0, 256, .inl t1)), (q2, .inl (C 0, 256, .inl t2))] ++ wK C ad u272_8) := bd_D (lc := [(q1, .inl (C 0, 256, .inl t1)), (q2, .inl (C 0, 256, .inl t2))]) hD [0, 1] rfl (by decide)
            exact W.zret (v := (0 : Int32)) (ty := .boolean) hx hb hr rfl (fun t ht hW => ⟨⟨(0 : Int32), (u272_8), rfl, hwp, by rw [ht]; exact hP9, va_K.moved hW.alike hK, hD9⟩, hS.F ht⟩) hS.2.2 dL_layers_281
  unfold wp_L_layers at hwp
  obtain ⟨H, hH⟩ : ∃ H, H = s.heap := ⟨_, rfl⟩
  obtain ⟨locs, hlo⟩ : ∃ z : List Loc, z = [] := ⟨_, rfl⟩
  have hP : va_P D vwCl ([(q1, .inl (C 0, 256, .inl t1)), (q2, .inl (C 0, 256, .inl t2))] ++ wK C ad d) H := by rw [hH]; exact hP
  have hD : va_D A ([(q1, .inl (C 0, 256, .inl t1)), (q2, .inl (C 0, 256, .inl t2))] ++ wK C ad d) := hD
  have hS : va_S A s.heap H locs := by rw [hH, hlo]; exact hS
  suffices K : W p l e (headSpec ws_L_layers rm_L_layers).room s m ([.ref (ad 0), .ref q1, .ref q2, .int p3] : List Value).toArray below meth c H locs 0 0 (MQ below (q_L_layers D C q1 q2 ad t1 t2 Q A) ([.ref (ad 0), .ref q1, .ref q2, .int p3] : List Value).toArray s 1 256 A) (F0 m 0 ls []) from by rw [hH, hlo] at K; exact K
  refine lv_iload_n hx hb dL_layers_0 rfl (lv_at hl 3 rfl) ?_
  obtain ⟨hn1, hwp⟩ := hwp
  obtain ⟨n1, hn2⟩ : ∃ z : Nat, p3.toNatClampNeg = z := ⟨_, rfl⟩
  obtain ⟨hn3, hwp⟩ := hwp n1 hn2
  refine va_newa (atype := .int) (N' := n1) (a0 := (n1, .inl (fun _ => 0))) hx hb (hts (.arrayClass .int) wd_146) rfl hK hP hD hS hA (fun cA => rfl) hn1 hn2 (by show _ * 4 ≤ _; omega) (Nat.le_of_ble_eq_true rfl) (by show 0 + n1 ≤ 256; omega) dL_layers_1 (fun a1 cA H hK1 hP hD hS => ?_)
  obtain rfl : cA = C 0 := Option.some.inj ((hK1.2 4 _ rfl).2.symm.trans (hK.2 0 _ rfl).2)
  clear hK1
  have hP := bd_mvP hP
  have hD := bd_mvD hD
  have hP : va_P D vwCl ([(q1, .inl (C 0, 256, .inl t1)), (q2, .inl (C 0, 256, .inl t2)), (a1, .inl (C 0, n1, .inl (fun _ => 0)))] ++ wK C ad d) H := hP
  have hD : va_D A ([(q1, .inl (C 0, 256, .inl t1)), (q2, .inl (C 0, 256, .inl t2)), (a1, .inl (C 0, n1, .inl (fun _ => 0)))] ++ wK C ad d) := hD
  refine W.widen (k := 1) (n := 256) (Nat.le_refl _) (by show 0 + n1 ≤ 256; omega) ?_
  refine lv_astore (lv' := [(4, .ref a1), (0, .ref (ad 0)), (1, .ref q1), (2, .ref q2), (3, .int p3)]) hx hb dL_layers_3 hl (by decide) rfl (fun ls hl => ?_)
  refine lv_iload_n hx hb dL_layers_5 rfl (lv_at hl 4 rfl) ?_
  refine lv_istore (lv' := [(5, .int p3), (4, .ref a1), (0, .ref (ad 0)), (1, .ref q1), (2, .ref q2), (3, .int p3)]) hx hb dL_layers_6 hl (by decide) rfl (fun ls hl => ?_)
  refine lv_iconst (v := 0) hx hb dL_layers_8 (by decide) ?_
  refine lv_istore (lv' := [(6, .int (0 : Int32)), (5, .int p3), (4, .ref a1), (0, .ref (ad 0)), (1, .ref q1), (2, .ref q2), (3, .int p3)]) hx hb dL_layers_9 hl (by decide) rfl (fun ls hl => ?_)
  refine lv_iconst (v := 0) hx hb dL_layers_11 (by decide) ?_
  refine lv_istore (lv' := [(7, .int (0 : Int32)), (6, .int (0 : Int32)), (5, .int p3), (4, .ref a1), (0, .ref (ad 0)), (1, .ref q1), (2, .ref q2), (3, .int p3)]) hx hb dL_layers_12 hl (by decide) rfl (fun ls hl => ?_)
  have hl9 := lv_sub (l' := [(0, .ref (ad 0)), (1, .ref q1), (2, .ref q2), (3, .int p3), (4, .ref a1), (5, .int p3), (6, .int (0 : Int32)), (7, .int (0 : Int32))]) hl [4, 5, 6, 7, 3, 2, 1, 0] rfl
  have hP9 : va_P D vwCl ([(q1, .inl (C 0, 256, .inl t1)), (q2, .inl (C 0, 256, .inl t2)), (a1, .inl (C 0, n1, .inl (fun _ => 0)))] ++ wK C ad d) H := bd_P (lc := [(q1, .inl (C 0, 256, .inl t1)), (q2, .inl (C 0, 256, .inl t2)), (a1, .inl (C 0, n1, .inl (fun _ => 0)))]) hP [0, 1, 2] rfl
  have hD9 : va_D A ([(q1, .inl (C 0, 256, .inl t1)), (q2, .inl (C 0, 256, .inl t2)), (a1, .inl (C 0, n1, .inl (fun _ => 0)))] ++ wK C ad d) := bd_D (lc := [(q1, .inl (C 0, 256, .inl t1)), (q2, .inl (C 0, 256, .inl t2)), (a1, .inl (C 0, n1, .inl (fun _ => 0)))]) hD [0, 1, 2] rfl (by decide)
  obtain ⟨nn9, hwp⟩ := hwp
  refine HL14 a1 n1 p3 p3 (0 : Int32) d _ (fun ta1 H locs ls hl hP hD hS hwp => ?_) nn9 (0 : Int32) (fun _ => 0) H locs ls hl9 hP9 hD9 hS hwp
  have hl9 := lv_sub (l' := [(0, .ref (ad 0)), (1, .ref q1), (2, .ref q2), (3, .int p3), (4, .ref a1), (5, .int p3), (6, .int (0 : Int32))]) hl [0, 1, 2, 3, 4, 5, 6] rfl
  have hP9 : va_P D vwCl ([(q1, .inl (C 0, 256, .inl t1)), (q2, .inl (C 0, 256, .inl t2)), (a1, .inl (C 0, n1, .inl ta1))] ++ wK C ad d) H := bd_P (lc := [(q1, .inl (C 0, 256, .inl t1)), (q2, .inl (C 0, 256, .inl t2)), (a1, .inl (C 0, n1, .inl ta1))]) hP [0, 1, 2] rfl
  have hD9 : va_D A ([(q1, .inl (C 0, 256, .inl t1)), (q2, .inl (C 0, 256, .inl t2)), (a1, .inl (C 0, n1, .inl ta1))] ++ wK C ad d) := bd_D (lc := [(q1, .inl (C 0, 256, .inl t1)), (q2, .inl (C 0, 256, .inl t2)), (a1, .inl (C 0, n1, .inl ta1))]) hD [0, 1, 2] rfl (by decide)
  obtain ⟨nn9, hwp⟩ := hwp
  refine HL32 a1 n1 p3 _ (fun x6 d ta1 H locs ls hl hP hD hS hwp => ?_) nn9 p3 (0 : Int32) d ta1 H locs ls hl9 hP9 hD9 hS hwp
  refine lv_aload_n hx hb dL_layers_181 rfl (lv_at hl 0 rfl) ?_
  have hPc : va_P D vwCl ([] ++ wK C ad d) H := bd_P (lc := []) hP [] rfl
  have hDc : va_D A ([] ++ wK C ad d) := bd_D (lc := []) hD [] rfl (by decide)
  have hFc : ∀ q, va_A ([] ++ wK C ad d) H.size q → A q := bd_free (lc := []) hD hS hA [] rfl
  refine va_calli (va_runV (As := []) (rest := []) ⟨hx, hb, hml, hown, hts⟩ (mk_X10_layers l hst D C ad d H.size _ hwp) (cwV 0 hts gc_L_158 rfl rfl rfl (by decide +kernel) ⟨Nat.le_of_ble_eq_true rfl, Nat.le_of_ble_eq_true rfl⟩) ⟨fun a U g mk q => by obtain ⟨q0, q1, qP, qK, qD, qT⟩ := q; exact ⟨q0, q1, qP, va_K.moved (u := U) (U := U.calling g mk a) (Vm.Alike.refl U.vm) qK, qD, qT.mv (U := U.calling g mk a) (State.WarmedH.refl U)⟩, va_recv hK hPc (ci := 10) (q0 := 0) rfl rfl, fun U hU hW => ⟨rfl, by rw [hU], by rw [hU]; exact hPc, va_K.moved hW.alike hK, hDc.weaken (fun _ _ _ _ => trivial), hT.call hS hFc hU hW⟩⟩ rfl rfl hl.1 rfl (lv_room (Nat.le_of_ble_eq_true rfl)) dL_layers_182 ⟨Nat.le_of_ble_eq_true rfl, Nat.le_of_ble_eq_true rfl⟩) hS (fun q _ h => hFc q h) hFc (fun r182 u t H1 locs ht hvm hwp hB hz1 hk1 hS => ?_)
  obtain ⟨u182_2, rfl⟩ : ∃ z, z = u := ⟨_, rfl⟩
  obtain ⟨hP1, -, hD1⟩ := hB
  rw [ht] at hP1
  obtain ⟨hP, hD⟩ := bd_join (lr := [(q1, .inl (C 0, 256, .inl t1)), (q2, .inl (C 0, 256, .inl t2)), (a1, .inl (C 0, n1, .inl ta1))]) (l1 := []) (b1 := wK C ad u182_2) hP hD [] [0, 1, 2] rfl rfl (by decide) (by decide) hk1 hFc hP1 hD1
  generalize H1 = H at hP hS ⊢
  have hP : va_P D vwCl ([(q1, .inl (C 0, 256, .inl t1)), (q2, .inl (C 0, 256, .inl t2)), (a1, .inl (C 0, n1, .inl ta1))] ++ wK C ad u182_2) H := hP
  have hD : va_D A ([(q1, .inl (C 0, 256, .inl t1)), (q2, .inl (C 0, 256, .inl t2)), (a1, .inl (C 0, n1, .inl ta1))] ++ wK C ad u182_2) := hD
  refine lv_iload hx hb dL_layers_185 (lv_at hl 5 rfl) ?_
  refine lv_icmp_eq (tgt := 192) hx hb dL_layers_187 (by decide) (fun c187 => ?_) (fun c187 => ?_)
  · have hwp := hwp.1 c187
    refine lv_iconst (v := 0) hx hb dL_layers_192 (by decide) ?_
    refine lv_istore (lv' := [(7, .int (0 : Int32)), (0, .ref (ad 0)), (1, .ref q1), (2, .ref q2), (3, .int p3), (4, .ref a1), (6, .int x6)]) hx hb dL_layers_193 hl (by decide) rfl (fun ls hl => ?_)
    have hl9 := lv_sub (l' := [(0, .ref (ad 0)), (1, .ref q1), (2, .ref q2), (3, .int p3), (4, .ref a1), (7, .int (0 : Int32))]) hl [1, 2, 3, 4, 5, 0] rfl
    have hP9 : va_P D vwCl ([(q1, .inl (C 0, 256, .inl t1)), (q2, .inl (C 0, 256, .inl t2)), (a1, .inl (C 0, n1, .inl ta1))] ++ wK C ad u182_2) H := bd_P (lc := [(q1, .inl (C 0, 256, .inl t1)), (q2, .inl (C 0, 256, .inl t2)), (a1, .inl (C 0, n1, .inl ta1))]) hP [0, 1, 2] rfl
    have hD9 : va_D A ([(q1, .inl (C 0, 256, .inl t1)), (q2, .inl (C 0, 256, .inl t2)), (a1, .inl (C 0, n1, .inl ta1))] ++ wK C ad u182_2) := bd_D (lc := [(q1, .inl (C 0, 256, .inl t1)), (q2, .inl (C 0, 256, .inl t2)), (a1, .inl (C 0, n1, .inl ta1))]) hD [0, 1, 2] rfl (by decide)
    obtain ⟨nn9, hwp⟩ := hwp
    refine HL195 a1 n1 p3 ta1 nn9 (0 : Int32) u182_2 H locs ls hl9 hP9 hD9 hS hwp
  · have hwp := hwp.2 c187
    refine lv_iconst (v := 0) hx hb dL_layers_190 (by decide) ?_
    have hP9 : va_P D vwCl ([(q1, .inl (C 0, 256, .inl t1)), (q2, .inl (C 0, 256, .inl t2))] ++ wK C ad u182_2) H := bd_P (lc := [(q1, .inl (C 0, 256, .inl t1)), (q2, .inl (C 0, 256, .inl t2))]) hP [0, 1] rfl
    have hD9 : va_D A ([(q1, .inl (C 0, 256, .inl t1)), (q2, .inl (C 0, 256, .inl t2))] ++ wK C ad u182_2) := bd_D (lc := [(q1, .inl (C 0, 256, .inl t1)), (q2, .inl (C 0, 256, .inl t2))]) hD [0, 1] rfl (by decide)
    exact W.zret (v := (0 : Int32)) (ty := .boolean) hx hb hr rfl (fun t ht hW => ⟨⟨(0 : Int32), (u182_2), rfl, hwp, by rw [ht]; exact hP9, va_K.moved hW.alike hK, hD9⟩, hS.F ht⟩) hS.2.2 dL_layers_191

