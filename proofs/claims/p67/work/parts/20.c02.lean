abbrev ws_X3_sortByGain : List Cond := .code yX3_sortByGain cX3_sortByGain 5 none :: WALL
abbrev rm_X3_sortByGain : Room := { frames := 1, cells := 0, slots := 0, locals := 23 }
abbrev w_X3_sortByGain (C : Nat → ClassId) (q : Nat) (q_layer : Nat) (q_size : Nat) (q_topJoy : Nat) (q_firstOfJoy : Nat) (q_nextOfJoy : Nat) (q_firstOfGain : Nat) (q_nextOfGain : Nat) (q1 : Nat) (q1_weight : Nat) (q1_gain : Nat) (q1_joy : Nat) (q1_barred : Nat) (q1_needed : Nat) (t_count : Int32) (t_firstOfGain : Nat → Int32) (t_firstOfJoy : Nat → Int32) (t1_sets : Int32) (t1_limit : Int32) (t1_mustSet : Int32) (t1_neverSet : Int32) (t1_gain : Nat → Int32) (t_nextOfGain : Nat → Int32) (t_nextOfJoy : Nat → Int32) : va_W := [(q, .inr (3, [.ref q_layer, .ref q_size, .int t_count, .ref q_topJoy, .ref q_firstOfJoy, .ref q_nextOfJoy, .ref q_firstOfGain, .ref q_nextOfGain])), (q_firstOfGain, .inl (C 0, 1189, .inl t_firstOfGain)), (q_firstOfJoy, .inl (C 0, 1189, .inl t_firstOfJoy)), (q1, .inr (0, [.ref q1_weight, .ref q1_gain, .ref q1_joy, .ref q1_barred, .ref q1_needed, .int t1_sets, .int t1_limit, .int t1_mustSet, .int t1_neverSet])), (q1_gain, .inl (C 0, 4096, .inl t1_gain)), (q_nextOfGain, .inl (C 0, 4096, .inl t_nextOfGain)), (q_nextOfJoy, .inl (C 0, 4096, .inl t_nextOfJoy))]
abbrev q_X3_sortByGain (D : va_G) (C : Nat → ClassId) (q : Nat) (q_layer : Nat) (q_size : Nat) (q_topJoy : Nat) (q_firstOfJoy : Nat) (q_nextOfJoy : Nat) (q_firstOfGain : Nat) (q_nextOfGain : Nat) (q1 : Nat) (q1_weight : Nat) (q1_gain : Nat) (q1_joy : Nat) (q1_barred : Nat) (q1_needed : Nat) (t_count : Int32) (t_firstOfJoy : Nat → Int32) (t1_sets : Int32) (t1_limit : Int32) (t1_mustSet : Int32) (t1_neverSet : Int32) (t1_gain : Nat → Int32) (t_nextOfJoy : Nat → Int32) (Q : (Nat → Int32) → (Nat → Int32) → Prop) (A : Nat → Prop) : Array Value → State → Outcome → State → Prop := va_Qv (fun (u : (Nat → Int32) × (Nat → Int32)) => Q u.1 u.2) (fun (u : (Nat → Int32) × (Nat → Int32)) (t : State) => va_P D vwCl (w_X3_sortByGain C q q_layer q_size q_topJoy q_firstOfJoy q_nextOfJoy q_firstOfGain q_nextOfGain q1 q1_weight q1_gain q1_joy q1_barred q1_needed t_count u.1 t_firstOfJoy t1_sets t1_limit t1_mustSet t1_neverSet t1_gain u.2 t_nextOfJoy) t.heap ∧ va_K D vwCl (tyL C) t ∧ va_D A (w_X3_sortByGain C q q_layer q_size q_topJoy q_firstOfJoy q_nextOfJoy q_firstOfGain q_nextOfGain q1 q1_weight q1_gain q1_joy q1_barred q1_needed t_count u.1 t_firstOfJoy t1_sets t1_limit t1_mustSet t1_neverSet t1_gain u.2 t_nextOfJoy)) A
set_option maxHeartbeats 4000000 in
set_option maxRecDepth 100000 in
theorem met_X3_sortByGain (l : Launch) (D : va_G) (C : Nat → ClassId) (q : Nat) (q_layer : Nat) (q_size : Nat) (q_topJoy : Nat) (q_firstOfJoy : Nat) (q_nextOfJoy : Nat) (q_firstOfGain : Nat) (q_nextOfGain : Nat) (q1 : Nat) (q1_weight : Nat) (q1_gain : Nat) (q1_joy : Nat) (q1_barred : Nat) (q1_needed : Nat) (t_count : Int32) (t_firstOfGain : Nat → Int32) (t_firstOfJoy : Nat → Int32) (t1_sets : Int32) (t1_limit : Int32) (t1_mustSet : Int32) (t1_neverSet : Int32) (t1_gain : Nat → Int32) (t_nextOfGain : Nat → Int32) (t_nextOfJoy : Nat → Int32) (sz : Nat) (Q : (Nat → Int32) → (Nat → Int32) → Prop) (hwp : wp_X3_sortByGain t_firstOfGain t_firstOfJoy t1_gain t_nextOfGain t_nextOfJoy Q) : Met l yX3_sortByGain ws_X3_sortByGain rm_X3_sortByGain (va_Pc [.ref q, .ref q1] (fun U => U.heap.size = sz ∧ va_P D vwCl (w_X3_sortByGain C q q_layer q_size q_topJoy q_firstOfJoy q_nextOfJoy q_firstOfGain q_nextOfGain q1 q1_weight q1_gain q1_joy q1_barred q1_needed t_count t_firstOfGain t_firstOfJoy t1_sets t1_limit t1_mustSet t1_neverSet t1_gain t_nextOfGain t_nextOfJoy) U.heap ∧ va_K D vwCl (tyL C) U ∧ va_D (fun _ => True) (w_X3_sortByGain C q q_layer q_size q_topJoy q_firstOfJoy q_nextOfJoy q_firstOfGain q_nextOfGain q1 q1_weight q1_gain q1_joy q1_barred q1_needed t_count t_firstOfGain t_firstOfJoy t1_sets t1_limit t1_mustSet t1_neverSet t1_gain t_nextOfGain t_nextOfJoy))) (q_X3_sortByGain D C q q_layer q_size q_topJoy q_firstOfJoy q_nextOfJoy q_firstOfGain q_nextOfGain q1 q1_weight q1_gain q1_joy q1_barred q1_needed t_count t_firstOfJoy t1_sets t1_limit t1_mustSet t1_neverSet t1_gain t_nextOfJoy Q (va_A (w_X3_sortByGain C q q_layer q_size q_topJoy q_firstOfJoy q_nextOfJoy q_firstOfGain q_nextOfGain q1 q1_weight q1_gain q1_joy q1_barred q1_needed t_count t_firstOfGain t_firstOfJoy t1_sets t1_limit t1_mustSet t1_neverSet t1_gain t_nextOfGain t_nextOfJoy) sz)) 0 0 (va_A (w_X3_sortByGain C q q_layer q_size q_topJoy q_firstOfJoy q_nextOfJoy q_firstOfGain q_nextOfGain q1 q1_weight q1_gain q1_joy q1_barred q1_needed t_count t_firstOfGain t_firstOfJoy t1_sets t1_limit t1_mustSet t1_neverSet t1_gain t_nextOfGain t_nextOfJoy) sz) := by
  refine Met.ofW (cc := cX3_sortByGain) (maxL := 5) (ret := none) (by decide) rfl ?_
  intro p e s m args below meth c s₁ B hml hv
  obtain ⟨rfl, hsz, hP, hK, hD0⟩ := hv
  have hx := B.exec
  have hb := B.bytes
  have hr := B.returns
  have hts : ∀ w ∈ WALL, w.before _ s = true := fun w h => atoms_spec (ws := ws_X3_sortByGain) B.pre w (List.mem_cons_of_mem _ h)
  have hown : s.vm.findClass RX3 = some m.cls := findClass_of_methodNamed B.named
  have hlocks := B.notSynchronized
  subst hsz
  have hD := hD0.self (sz := s.heap.size)
  generalize hAe : va_A (w_X3_sortByGain C q q_layer q_size q_topJoy q_firstOfJoy q_nextOfJoy q_firstOfGain q_nextOfGain q1 q1_weight q1_gain q1_joy q1_barred q1_needed t_count t_firstOfGain t_firstOfJoy t1_sets t1_limit t1_mustSet t1_neverSet t1_gain t_nextOfGain t_nextOfJoy) s.heap.size = A at hD ⊢
  have hA : ∀ q : Nat, s.heap.size ≤ q → A q := fun q h => by rw [← hAe]; exact Or.inr h
  have hS : va_S A s.heap s.heap [] := va_S.rf
  have hl := lv_entry ([.ref q, .ref q1]) (n := 5) (Nat.le_of_ble_eq_true rfl)
  rw [lg_entry_eq]
  generalize (lg_sl ([.ref q, .ref q1]) ++ List.replicate (5 - (lg_sl ([.ref q, .ref q1])).length) Slot.unset).toArray = ls at hl ⊢
  have hl : lv_has ls 5 [(0, .ref q), (1, .ref q1)] := hl
  have HL27 : ∀ (x2 : Int32) (k71 : (Nat → Int32) → (Nat → Int32) → Prop) (hk71 : ∀ (t_firstOfGain : Nat → Int32) (t_nextOfGain : Nat → Int32) (H : Heap) (locs : List Loc) (ls : Array Slot), lv_has ls 5 [(0, .ref q), (1, .ref q1), (2, .int x2)] → va_P D vwCl [(q, .inr (3, [.ref q_layer, .ref q_size, .int t_count, .ref q_topJoy, .ref q_firstOfJoy, .ref q_nextOfJoy, .ref q_firstOfGain, .ref q_nextOfGain])), (q_firstOfGain, .inl (C 0, 1189, .inl t_firstOfGain)), (q_firstOfJoy, .inl (C 0, 1189, .inl t_firstOfJoy)), (q1, .inr (0, [.ref q1_weight, .ref q1_gain, .ref q1_joy, .ref q1_barred, .ref q1_needed, .int t1_sets, .int t1_limit, .int t1_mustSet, .int t1_neverSet])), (q1_gain, .inl (C 0, 4096, .inl t1_gain)), (q_nextOfGain, .inl (C 0, 4096, .inl t_nextOfGain)), (q_nextOfJoy, .inl (C 0, 4096, .inl t_nextOfJoy))] H → va_D A [(q, .inr (3, [.ref q_layer, .ref q_size, .int t_count, .ref q_topJoy, .ref q_firstOfJoy, .ref q_nextOfJoy, .ref q_firstOfGain, .ref q_nextOfGain])), (q_firstOfGain, .inl (C 0, 1189, .inl t_firstOfGain)), (q_firstOfJoy, .inl (C 0, 1189, .inl t_firstOfJoy)), (q1, .inr (0, [.ref q1_weight, .ref q1_gain, .ref q1_joy, .ref q1_barred, .ref q1_needed, .int t1_sets, .int t1_limit, .int t1_mustSet, .int t1_neverSet])), (q1_gain, .inl (C 0, 4096, .inl t1_gain)), (q_nextOfGain, .inl (C 0, 4096, .inl t_nextOfGain)), (q_nextOfJoy, .inl (C 0, 4096, .inl t_nextOfJoy))] → va_S A s.heap H locs → k71 t_firstOfGain t_nextOfGain → W p l e (headSpec ws_X3_sortByGain rm_X3_sortByGain).room s m ([.ref q, .ref q1] : List Value).toArray below meth c H locs 0 0 (MQ below (q_X3_sortByGain D C q q_layer q_size q_topJoy q_firstOfJoy q_nextOfJoy q_firstOfGain q_nextOfGain q1 q1_weight q1_gain q1_joy q1_barred q1_needed t_count t_firstOfJoy t1_sets t1_limit t1_mustSet t1_neverSet t1_gain t_nextOfJoy Q A) ([.ref q, .ref q1] : List Value).toArray s 0 0 A) (F0 m 71 ls [])) (n27 : Nat) (x3 : Int32) (x4 : Int32) (t_firstOfGain : Nat → Int32) (t_nextOfGain : Nat → Int32) (H : Heap) (locs : List Loc) (ls : Array Slot), lv_has ls 5 [(0, .ref q), (1, .ref q1), (2, .int x2), (3, .int x3), (4, .int x4)] → va_P D vwCl [(q, .inr (3, [.ref q_layer, .ref q_size, .int t_count, .ref q_topJoy, .ref q_firstOfJoy, .ref q_nextOfJoy, .ref q_firstOfGain, .ref q_nextOfGain])), (q_firstOfGain, .inl (C 0, 1189, .inl t_firstOfGain)), (q_firstOfJoy, .inl (C 0, 1189, .inl t_firstOfJoy)), (q1, .inr (0, [.ref q1_weight, .ref q1_gain, .ref q1_joy, .ref q1_barred, .ref q1_needed, .int t1_sets, .int t1_limit, .int t1_mustSet, .int t1_neverSet])), (q1_gain, .inl (C 0, 4096, .inl t1_gain)), (q_nextOfGain, .inl (C 0, 4096, .inl t_nextOfGain)), (q_nextOfJoy, .inl (C 0, 4096, .inl t_nextOfJoy))] H → va_D A [(q, .inr (3, [.ref q_layer, .ref q_size, .int t_count, .ref q_topJoy, .ref q_firstOfJoy, .ref q_nextOfJoy, .ref q_firstOfGain, .ref q_nextOfGain])), (q_firstOfGain, .inl (C 0, 1189, .inl t_firstOfGain)), (q_firstOfJoy, .inl (C 0, 1189, .inl t_firstOfJoy)), (q1, .inr (0, [.ref q1_weight, .ref q1_gain, .ref q1_joy, .ref q1_barred, .ref q1_needed, .int t1_sets, .int t1_limit, .int t1_mustSet, .int t1_neverSet])), (q1_gain, .inl (C 0, 4096, .inl t1_gain)), (q_nextOfGain, .inl (C 0, 4096, .inl t_nextOfGain)), (q_nextOfJoy, .inl (C 0, 4096, .inl t_nextOfJoy))] → va_S A s.heap H locs → wp_X3_sortByGain_L27 t_firstOfJoy t1_gain t_nextOfJoy x2 k71 Q n27 x3 x4 t_firstOfGain t_nextOfGain → W p l e (headSpec ws_X3_sortByGain rm_X3_sortByGain).room s m ([.ref q, .ref q1] : List Value).toArray below meth c H locs 0 0 (MQ below (q_X3_sortByGain D C q q_layer q_size q_topJoy q_firstOfJoy q_nextOfJoy q_firstOfGain q_nextOfGain q1 q1_weight q1_gain q1_joy q1_barred q1_needed t_count t_firstOfJoy t1_sets t1_limit t1_mustSet t1_neverSet t1_gain t_nextOfJoy Q A) ([.ref q, .ref q1] : List Value).toArray s 0 0 A) (F0 m 27 ls []) := by
    intro x2 k71 hk71 n27
    induction n27 with
    | zero =>
      intro x3 x4 t_firstOfGain t_nextOfGain H locs ls hl hP hD hS hwp
      exact False.elim hwp
    | succ n27 ih =>
      intro x3 x4 t_firstOfGain t_nextOfGain H locs ls hl hP hD hS hwp
      unfold wp_X3_sortByGain_L27 at hwp
      refine lv_iload hx hb dX3_sortByGain_27 (lv_at hl 4 rfl) ?_
      refine lv_sipush (v := 4096) hx hb dX3_sortByGain_29 (by decide) ?_
      refine lv_icmp_ge (tgt := 71) hx hb dX3_sortByGain_32 (by decide) (fun c32 => ?_) (fun c32 => ?_)
      · have hwp := hwp.1 c32
        have hl9 := lv_sub (l' := [(0, .ref q), (1, .ref q1), (2, .int x2)]) hl [0, 1, 2] rfl
        have hP9 := hP.sub (ws' := [(q, .inr (3, [.ref q_layer, .ref q_size, .int t_count, .ref q_topJoy, .ref q_firstOfJoy, .ref q_nextOfJoy, .ref q_firstOfGain, .ref q_nextOfGain])), (q_firstOfGain, .inl (C 0, 1189, .inl t_firstOfGain)), (q_firstOfJoy, .inl (C 0, 1189, .inl t_firstOfJoy)), (q1, .inr (0, [.ref q1_weight, .ref q1_gain, .ref q1_joy, .ref q1_barred, .ref q1_needed, .int t1_sets, .int t1_limit, .int t1_mustSet, .int t1_neverSet])), (q1_gain, .inl (C 0, 4096, .inl t1_gain)), (q_nextOfGain, .inl (C 0, 4096, .inl t_nextOfGain)), (q_nextOfJoy, .inl (C 0, 4096, .inl t_nextOfJoy))]) [0, 1, 2, 3, 4, 5, 6] rfl
        have hD9 := hD.sub (ws' := [(q, .inr (3, [.ref q_layer, .ref q_size, .int t_count, .ref q_topJoy, .ref q_firstOfJoy, .ref q_nextOfJoy, .ref q_firstOfGain, .ref q_nextOfGain])), (q_firstOfGain, .inl (C 0, 1189, .inl t_firstOfGain)), (q_firstOfJoy, .inl (C 0, 1189, .inl t_firstOfJoy)), (q1, .inr (0, [.ref q1_weight, .ref q1_gain, .ref q1_joy, .ref q1_barred, .ref q1_needed, .int t1_sets, .int t1_limit, .int t1_mustSet, .int t1_neverSet])), (q1_gain, .inl (C 0, 4096, .inl t1_gain)), (q_nextOfGain, .inl (C 0, 4096, .inl t_nextOfGain)), (q_nextOfJoy, .inl (C 0, 4096, .inl t_nextOfJoy))]) [0, 1, 2, 3, 4, 5, 6] (by decide) rfl
        exact hk71 t_firstOfGain t_nextOfGain H locs ls hl9 hP9 hD9 hS hwp
      · have hwp := hwp.2 c32
        refine lv_iload_n hx hb dX3_sortByGain_35 rfl (lv_at hl 3 rfl) ?_
        refine lv_iconst (v := (-1)) hx hb dX3_sortByGain_36 (by decide) ?_
        refine lv_icmp_eq (tgt := 71) hx hb dX3_sortByGain_37 (by decide) (fun c37 => ?_) (fun c37 => ?_)
        · have hwp := hwp.1 c37
          have hl9 := lv_sub (l' := [(0, .ref q), (1, .ref q1), (2, .int x2)]) hl [0, 1, 2] rfl
          have hP9 := hP.sub (ws' := [(q, .inr (3, [.ref q_layer, .ref q_size, .int t_count, .ref q_topJoy, .ref q_firstOfJoy, .ref q_nextOfJoy, .ref q_firstOfGain, .ref q_nextOfGain])), (q_firstOfGain, .inl (C 0, 1189, .inl t_firstOfGain)), (q_firstOfJoy, .inl (C 0, 1189, .inl t_firstOfJoy)), (q1, .inr (0, [.ref q1_weight, .ref q1_gain, .ref q1_joy, .ref q1_barred, .ref q1_needed, .int t1_sets, .int t1_limit, .int t1_mustSet, .int t1_neverSet])), (q1_gain, .inl (C 0, 4096, .inl t1_gain)), (q_nextOfGain, .inl (C 0, 4096, .inl t_nextOfGain)), (q_nextOfJoy, .inl (C 0, 4096, .inl t_nextOfJoy))]) [0, 1, 2, 3, 4, 5, 6] rfl
          have hD9 := hD.sub (ws' := [(q, .inr (3, [.ref q_layer, .ref q_size, .int t_count, .ref q_topJoy, .ref q_firstOfJoy, .ref q_nextOfJoy, .ref q_firstOfGain, .ref q_nextOfGain])), (q_firstOfGain, .inl (C 0, 1189, .inl t_firstOfGain)), (q_firstOfJoy, .inl (C 0, 1189, .inl t_firstOfJoy)), (q1, .inr (0, [.ref q1_weight, .ref q1_gain, .ref q1_joy, .ref q1_barred, .ref q1_needed, .int t1_sets, .int t1_limit, .int t1_mustSet, .int t1_neverSet])), (q1_gain, .inl (C 0, 4096, .inl t1_gain)), (q_nextOfGain, .inl (C 0, 4096, .inl t_nextOfGain)), (q_nextOfJoy, .inl (C 0, 4096, .inl t_nextOfJoy))]) [0, 1, 2, 3, 4, 5, 6] (by decide) rfl
          exact hk71 t_firstOfGain t_nextOfGain H locs ls hl9 hP9 hD9 hS hwp
        · have hwp := hwp.2 c37
          refine lv_iload_n hx hb dX3_sortByGain_40 rfl (lv_at hl 3 rfl) ?_
          refine lv_aload_n hx hb dX3_sortByGain_41 rfl (lv_at hl 1 rfl) ?_
          refine va_get (D := D) (ci := 0) (v := .ref q1_gain) (C := RX0) (T := TX0) (N := 9) hx hb hts iwX0 hown hK hP 3 rfl rfl 1 (by decide) (hts (.fieldLink RX3 70 "ParetoDesk$Choices" "gain" "[I") wd_221) (fun _ h9 => h9) rfl dX3_sortByGain_42 ?_
          refine lv_iload_n hx hb dX3_sortByGain_45 rfl (lv_at hl 3 rfl) ?_
          obtain ⟨hi46, hwp⟩ := hwp
          refine va_iald (D := D) hx hb hK hP 4 0 rfl rfl hi46 dX3_sortByGain_46 ?_
          refine lv_aload_n hx hb dX3_sortByGain_47 rfl (lv_at hl 0 rfl) ?_
          refine va_get (D := D) (ci := 3) (v := .ref q_firstOfGain) (C := RX3) (T := TX3) (N := 8) hx hb hts iwX3 hown hK hP 0 rfl rfl 6 (by decide) (hts (.fieldLink RX3 27 "ParetoDesk$Layers" "firstOfGain" "[I") wd_359) (fun _ h9 => h9) rfl dX3_sortByGain_48 ?_
          refine lv_aload_n hx hb dX3_sortByGain_51 rfl (lv_at hl 0 rfl) ?_
          refine va_get (D := D) (ci := 3) (v := .ref q_nextOfGain) (C := RX3) (T := TX3) (N := 8) hx hb hts iwX3 hown hK hP 0 rfl rfl 7 (by decide) (hts (.fieldLink RX3 30 "ParetoDesk$Layers" "nextOfGain" "[I") wd_360) (fun _ h9 => h9) rfl dX3_sortByGain_52 ?_
          have hPc := hP.sub (ws' := [(q_firstOfGain, .inl (C 0, 1189, .inl t_firstOfGain)), (q_nextOfGain, .inl (C 0, 4096, .inl t_nextOfGain))]) [1, 5] rfl
          have hDc := hD.sub (ws' := [(q_firstOfGain, .inl (C 0, 1189, .inl t_firstOfGain)), (q_nextOfGain, .inl (C 0, 4096, .inl t_nextOfGain))]) [1, 5] (by decide) rfl
          have hFc := va_free (wc := [(q_firstOfGain, .inl (C 0, 1189, .inl t_firstOfGain)), (q_nextOfGain, .inl (C 0, 4096, .inl t_nextOfGain))]) hD hS hA [1, 5] rfl
          refine va_callv (va_runS (As := [.int x3, .int (t1_gain x3.toNatClampNeg), .ref q_firstOfGain, .ref q_nextOfGain]) (rest := []) ⟨hx, hb, hml, hown, hts⟩ (met_X3_putAhead l D C q_firstOfGain q_nextOfGain x3 (t1_gain x3.toNatClampNeg) t_firstOfGain t_nextOfGain H.size _ hwp) (va_cwS 4 hts gc_X3_66 rfl rfl rfl (by decide +kernel) ⟨Nat.le_of_ble_eq_true rfl, Nat.le_of_ble_eq_true rfl⟩) ⟨fun a U g mk q => by obtain ⟨q0, q1, qP, qK, qD⟩ := q; exact ⟨q0, q1, qP, va_K.moved (u := U) (U := U.calling g mk a) (Vm.Alike.refl U.vm) qK, qD⟩, fun U hU hW => ⟨rfl, by rw [hU], by rw [hU]; exact hPc, va_K.moved hW.alike hK, hDc.weaken (fun _ _ _ _ => trivial)⟩⟩ rfl rfl hl.1 rfl (lv_room (Nat.le_of_ble_eq_true rfl)) dX3_sortByGain_55 ⟨Nat.zero_le _, Nat.zero_le _⟩) hS (fun q _ h => hFc q h) hFc (fun u t H1 locs ht hvm hwp hB hz1 hk1 hS => ?_)
          obtain ⟨u55_2, u55_3⟩ := u
          obtain ⟨hP1, -, hD1⟩ := hB
          rw [ht] at hP1
          obtain ⟨hP, hD⟩ := va_join (wr := [(q, .inr (3, [.ref q_layer, .ref q_size, .int t_count, .ref q_topJoy, .ref q_firstOfJoy, .ref q_nextOfJoy, .ref q_firstOfGain, .ref q_nextOfGain])), (q_firstOfJoy, .inl (C 0, 1189, .inl t_firstOfJoy)), (q1, .inr (0, [.ref q1_weight, .ref q1_gain, .ref q1_joy, .ref q1_barred, .ref q1_needed, .int t1_sets, .int t1_limit, .int t1_mustSet, .int t1_neverSet])), (q1_gain, .inl (C 0, 4096, .inl t1_gain)), (q_nextOfJoy, .inl (C 0, 4096, .inl t_nextOfJoy))]) (w1 := [(q_firstOfGain, .inl (C 0, 1189, .inl u55_2)), (q_nextOfGain, .inl (C 0, 4096, .inl u55_3))]) hP hD [1, 5] [0, 2, 3, 4, 6] rfl rfl (by decide) (by decide) hk1 hFc hP1 hD1
          generalize H1 = H at hP hS ⊢
          have hP : va_P D vwCl [(q, .inr (3, [.ref q_layer, .ref q_size, .int t_count, .ref q_topJoy, .ref q_firstOfJoy, .ref q_nextOfJoy, .ref q_firstOfGain, .ref q_nextOfGain])), (q_firstOfJoy, .inl (C 0, 1189, .inl t_firstOfJoy)), (q1, .inr (0, [.ref q1_weight, .ref q1_gain, .ref q1_joy, .ref q1_barred, .ref q1_needed, .int t1_sets, .int t1_limit, .int t1_mustSet, .int t1_neverSet])), (q1_gain, .inl (C 0, 4096, .inl t1_gain)), (q_nextOfJoy, .inl (C 0, 4096, .inl t_nextOfJoy)), (q_firstOfGain, .inl (C 0, 1189, .inl u55_2)), (q_nextOfGain, .inl (C 0, 4096, .inl u55_3))] H := hP
          have hD : va_D A [(q, .inr (3, [.ref q_layer, .ref q_size, .int t_count, .ref q_topJoy, .ref q_firstOfJoy, .ref q_nextOfJoy, .ref q_firstOfGain, .ref q_nextOfGain])), (q_firstOfJoy, .inl (C 0, 1189, .inl t_firstOfJoy)), (q1, .inr (0, [.ref q1_weight, .ref q1_gain, .ref q1_joy, .ref q1_barred, .ref q1_needed, .int t1_sets, .int t1_limit, .int t1_mustSet, .int t1_neverSet])), (q1_gain, .inl (C 0, 4096, .inl t1_gain)), (q_nextOfJoy, .inl (C 0, 4096, .inl t_nextOfJoy)), (q_firstOfGain, .inl (C 0, 1189, .inl u55_2)), (q_nextOfGain, .inl (C 0, 4096, .inl u55_3))] := hD
          refine lv_aload_n hx hb dX3_sortByGain_58 rfl (lv_at hl 0 rfl) ?_
          refine va_get (D := D) (ci := 3) (v := .ref q_nextOfJoy) (C := RX3) (T := TX3) (N := 8) hx hb hts iwX3 hown hK hP 0 rfl rfl 5 (by decide) (hts (.fieldLink RX3 24 "ParetoDesk$Layers" "nextOfJoy" "[I") wd_358) (fun _ h9 => h9) rfl dX3_sortByGain_59 ?_
          refine lv_iload_n hx hb dX3_sortByGain_62 rfl (lv_at hl 3 rfl) ?_
          obtain ⟨hi63, hwp⟩ := hwp
          refine va_iald (D := D) hx hb hK hP 4 0 rfl rfl hi63 dX3_sortByGain_63 ?_
          refine lv_topi (fun v64 ev64 => ?_)
          have hwp := hwp v64 ev64
          refine lv_istore_n (lv' := [(3, .int v64), (0, .ref q), (1, .ref q1), (2, .int x2), (4, .int x4)]) hx hb dX3_sortByGain_64 rfl hl (by decide) rfl (fun ls hl => ?_)
          refine lv_iinc (v := x4 + 1) (lv' := [(4, .int (x4 + 1)), (3, .int v64), (0, .ref q), (1, .ref q1), (2, .int x2)]) hx hb dX3_sortByGain_65 hl (k := 4) rfl rfl (by decide) rfl (fun ls hl => ?_)
          refine lv_goto (tgt := 27) hx hb dX3_sortByGain_68 (by decide) ?_
          have hl9 := lv_sub (l' := [(0, .ref q), (1, .ref q1), (2, .int x2), (3, .int v64), (4, .int (x4 + 1))]) hl [2, 3, 4, 1, 0] rfl
          have hP9 := hP.sub (ws' := [(q, .inr (3, [.ref q_layer, .ref q_size, .int t_count, .ref q_topJoy, .ref q_firstOfJoy, .ref q_nextOfJoy, .ref q_firstOfGain, .ref q_nextOfGain])), (q_firstOfGain, .inl (C 0, 1189, .inl u55_2)), (q_firstOfJoy, .inl (C 0, 1189, .inl t_firstOfJoy)), (q1, .inr (0, [.ref q1_weight, .ref q1_gain, .ref q1_joy, .ref q1_barred, .ref q1_needed, .int t1_sets, .int t1_limit, .int t1_mustSet, .int t1_neverSet])), (q1_gain, .inl (C 0, 4096, .inl t1_gain)), (q_nextOfGain, .inl (C 0, 4096, .inl u55_3)), (q_nextOfJoy, .inl (C 0, 4096, .inl t_nextOfJoy))]) [0, 5, 1, 2, 3, 6, 4] rfl
          have hD9 := hD.sub (ws' := [(q, .inr (3, [.ref q_layer, .ref q_size, .int t_count, .ref q_topJoy, .ref q_firstOfJoy, .ref q_nextOfJoy, .ref q_firstOfGain, .ref q_nextOfGain])), (q_firstOfGain, .inl (C 0, 1189, .inl u55_2)), (q_firstOfJoy, .inl (C 0, 1189, .inl t_firstOfJoy)), (q1, .inr (0, [.ref q1_weight, .ref q1_gain, .ref q1_joy, .ref q1_barred, .ref q1_needed, .int t1_sets, .int t1_limit, .int t1_mustSet, .int t1_neverSet])), (q1_gain, .inl (C 0, 4096, .inl t1_gain)), (q_nextOfGain, .inl (C 0, 4096, .inl u55_3)), (q_nextOfJoy, .inl (C 0, 4096, .inl t_nextOfJoy))]) [0, 5, 1, 2, 3, 6, 4] (by decide) rfl
          exact ih v64 (x4 + 1) u55_2 u55_3 H locs ls hl9 hP9 hD9 hS hwp
  have HL10 : ∀  (n10 : Nat) (x2 : Int32) (t_firstOfGain : Nat → Int32) (t_nextOfGain : Nat → Int32) (H : Heap) (locs : List Loc) (ls : Array Slot), lv_has ls 5 [(0, .ref q), (1, .ref q1), (2, .int x2)] → va_P D vwCl [(q, .inr (3, [.ref q_layer, .ref q_size, .int t_count, .ref q_topJoy, .ref q_firstOfJoy, .ref q_nextOfJoy, .ref q_firstOfGain, .ref q_nextOfGain])), (q_firstOfGain, .inl (C 0, 1189, .inl t_firstOfGain)), (q_firstOfJoy, .inl (C 0, 1189, .inl t_firstOfJoy)), (q1, .inr (0, [.ref q1_weight, .ref q1_gain, .ref q1_joy, .ref q1_barred, .ref q1_needed, .int t1_sets, .int t1_limit, .int t1_mustSet, .int t1_neverSet])), (q1_gain, .inl (C 0, 4096, .inl t1_gain)), (q_nextOfGain, .inl (C 0, 4096, .inl t_nextOfGain)), (q_nextOfJoy, .inl (C 0, 4096, .inl t_nextOfJoy))] H → va_D A [(q, .inr (3, [.ref q_layer, .ref q_size, .int t_count, .ref q_topJoy, .ref q_firstOfJoy, .ref q_nextOfJoy, .ref q_firstOfGain, .ref q_nextOfGain])), (q_firstOfGain, .inl (C 0, 1189, .inl t_firstOfGain)), (q_firstOfJoy, .inl (C 0, 1189, .inl t_firstOfJoy)), (q1, .inr (0, [.ref q1_weight, .ref q1_gain, .ref q1_joy, .ref q1_barred, .ref q1_needed, .int t1_sets, .int t1_limit, .int t1_mustSet, .int t1_neverSet])), (q1_gain, .inl (C 0, 4096, .inl t1_gain)), (q_nextOfGain, .inl (C 0, 4096, .inl t_nextOfGain)), (q_nextOfJoy, .inl (C 0, 4096, .inl t_nextOfJoy))] → va_S A s.heap H locs → wp_X3_sortByGain_L10 t_firstOfJoy t1_gain t_nextOfJoy Q n10 x2 t_firstOfGain t_nextOfGain → W p l e (headSpec ws_X3_sortByGain rm_X3_sortByGain).room s m ([.ref q, .ref q1] : List Value).toArray below meth c H locs 0 0 (MQ below (q_X3_sortByGain D C q q_layer q_size q_topJoy q_firstOfJoy q_nextOfJoy q_firstOfGain q_nextOfGain q1 q1_weight q1_gain q1_joy q1_barred q1_needed t_count t_firstOfJoy t1_sets t1_limit t1_mustSet t1_neverSet t1_gain t_nextOfJoy Q A) ([.ref q, .ref q1] : List Value).toArray s 0 0 A) (F0 m 10 ls []) := by
    intro  n10
    induction n10 with
    | zero =>
      intro x2 t_firstOfGain t_nextOfGain H locs ls hl hP hD hS hwp
      exact False.elim hwp
    | succ n10 ih =>
      intro x2 t_firstOfGain t_nextOfGain H locs ls hl hP hD hS hwp
      unfold wp_X3_sortByGain_L10 at hwp
      refine lv_iload_n hx hb dX3_sortByGain_10 rfl (lv_at hl 2 rfl) ?_
      refine lv_sipush (v := 1189) hx hb dX3_sortByGain_11 (by decide) ?_
      refine lv_icmp_ge (tgt := 77) hx hb dX3_sortByGain_14 (by decide) (fun c14 => ?_) (fun c14 => ?_)
      · have hwp := hwp.1 c14
        have hP9 := hP.sub (ws' := [(q, .inr (3, [.ref q_layer, .ref q_size, .int t_count, .ref q_topJoy, .ref q_firstOfJoy, .ref q_nextOfJoy, .ref q_firstOfGain, .ref q_nextOfGain])), (q_firstOfGain, .inl (C 0, 1189, .inl t_firstOfGain)), (q_firstOfJoy, .inl (C 0, 1189, .inl t_firstOfJoy)), (q1, .inr (0, [.ref q1_weight, .ref q1_gain, .ref q1_joy, .ref q1_barred, .ref q1_needed, .int t1_sets, .int t1_limit, .int t1_mustSet, .int t1_neverSet])), (q1_gain, .inl (C 0, 4096, .inl t1_gain)), (q_nextOfGain, .inl (C 0, 4096, .inl t_nextOfGain)), (q_nextOfJoy, .inl (C 0, 4096, .inl t_nextOfJoy))]) [0, 1, 2, 3, 4, 5, 6] rfl
        have hD9 := hD.sub (ws' := [(q, .inr (3, [.ref q_layer, .ref q_size, .int t_count, .ref q_topJoy, .ref q_firstOfJoy, .ref q_nextOfJoy, .ref q_firstOfGain, .ref q_nextOfGain])), (q_firstOfGain, .inl (C 0, 1189, .inl t_firstOfGain)), (q_firstOfJoy, .inl (C 0, 1189, .inl t_firstOfJoy)), (q1, .inr (0, [.ref q1_weight, .ref q1_gain, .ref q1_joy, .ref q1_barred, .ref q1_needed, .int t1_sets, .int t1_limit, .int t1_mustSet, .int t1_neverSet])), (q1_gain, .inl (C 0, 4096, .inl t1_gain)), (q_nextOfGain, .inl (C 0, 4096, .inl t_nextOfGain)), (q_nextOfJoy, .inl (C 0, 4096, .inl t_nextOfJoy))]) [0, 1, 2, 3, 4, 5, 6] (by decide) rfl
        exact W.vret hx hb hr (fun t ht hW => ⟨⟨(t_firstOfGain, t_nextOfGain), rfl, hwp, by rw [ht]; exact hP9, va_K.moved hW.alike hK, hD9⟩, hS.F ht⟩) hS.2.2 dX3_sortByGain_77
      · have hwp := hwp.2 c14
        refine lv_aload_n hx hb dX3_sortByGain_17 rfl (lv_at hl 0 rfl) ?_
        refine va_get (D := D) (ci := 3) (v := .ref q_firstOfJoy) (C := RX3) (T := TX3) (N := 8) hx hb hts iwX3 hown hK hP 0 rfl rfl 4 (by decide) (hts (.fieldLink RX3 21 "ParetoDesk$Layers" "firstOfJoy" "[I") wd_357) (fun _ h9 => h9) rfl dX3_sortByGain_18 ?_
        refine lv_iload_n hx hb dX3_sortByGain_21 rfl (lv_at hl 2 rfl) ?_
        obtain ⟨hi22, hwp⟩ := hwp
        refine va_iald (D := D) hx hb hK hP 2 0 rfl rfl hi22 dX3_sortByGain_22 ?_
        refine lv_topi (fun v23 ev23 => ?_)
        have hwp := hwp v23 ev23
        refine lv_istore_n (lv' := [(3, .int v23), (0, .ref q), (1, .ref q1), (2, .int x2)]) hx hb dX3_sortByGain_23 rfl hl (by decide) rfl (fun ls hl => ?_)
        refine lv_iconst (v := 0) hx hb dX3_sortByGain_24 (by decide) ?_
        refine lv_istore (lv' := [(4, .int (0 : Int32)), (3, .int v23), (0, .ref q), (1, .ref q1), (2, .int x2)]) hx hb dX3_sortByGain_25 hl (by decide) rfl (fun ls hl => ?_)
        have hl9 := lv_sub (l' := [(0, .ref q), (1, .ref q1), (2, .int x2), (3, .int v23), (4, .int (0 : Int32))]) hl [2, 3, 4, 1, 0] rfl
        have hP9 := hP.sub (ws' := [(q, .inr (3, [.ref q_layer, .ref q_size, .int t_count, .ref q_topJoy, .ref q_firstOfJoy, .ref q_nextOfJoy, .ref q_firstOfGain, .ref q_nextOfGain])), (q_firstOfGain, .inl (C 0, 1189, .inl t_firstOfGain)), (q_firstOfJoy, .inl (C 0, 1189, .inl t_firstOfJoy)), (q1, .inr (0, [.ref q1_weight, .ref q1_gain, .ref q1_joy, .ref q1_barred, .ref q1_needed, .int t1_sets, .int t1_limit, .int t1_mustSet, .int t1_neverSet])), (q1_gain, .inl (C 0, 4096, .inl t1_gain)), (q_nextOfGain, .inl (C 0, 4096, .inl t_nextOfGain)), (q_nextOfJoy, .inl (C 0, 4096, .inl t_nextOfJoy))]) [0, 1, 2, 3, 4, 5, 6] rfl
        have hD9 := hD.sub (ws' := [(q, .inr (3, [.ref q_layer, .ref q_size, .int t_count, .ref q_topJoy, .ref q_firstOfJoy, .ref q_nextOfJoy, .ref q_firstOfGain, .ref q_nextOfGain])), (q_firstOfGain, .inl (C 0, 1189, .inl t_firstOfGain)), (q_firstOfJoy, .inl (C 0, 1189, .inl t_firstOfJoy)), (q1, .inr (0, [.ref q1_weight, .ref q1_gain, .ref q1_joy, .ref q1_barred, .ref q1_needed, .int t1_sets, .int t1_limit, .int t1_mustSet, .int t1_neverSet])), (q1_gain, .inl (C 0, 4096, .inl t1_gain)), (q_nextOfGain, .inl (C 0, 4096, .inl t_nextOfGain)), (q_nextOfJoy, .inl (C 0, 4096, .inl t_nextOfJoy))]) [0, 1, 2, 3, 4, 5, 6] (by decide) rfl
        obtain ⟨nn9, hwp⟩ := hwp
        refine HL27 x2 _ (fun t_firstOfGain t_nextOfGain H locs ls hl hP hD hS hwp => ?_) nn9 v23 (0 : Int32) t_firstOfGain t_nextOfGain H locs ls hl9 hP9 hD9 hS hwp
        refine lv_iinc (v := x2 + 1) (lv' := [(2, .int (x2 + 1)), (0, .ref q), (1, .ref q1)]) hx hb dX3_sortByGain_71 hl (k := 2) rfl rfl (by decide) rfl (fun ls hl => ?_)
        refine lv_goto (tgt := 10) hx hb dX3_sortByGain_74 (by decide) ?_
        have hl9 := lv_sub (l' := [(0, .ref q), (1, .ref q1), (2, .int (x2 + 1))]) hl [1, 2, 0] rfl
        have hP9 := hP.sub (ws' := [(q, .inr (3, [.ref q_layer, .ref q_size, .int t_count, .ref q_topJoy, .ref q_firstOfJoy, .ref q_nextOfJoy, .ref q_firstOfGain, .ref q_nextOfGain])), (q_firstOfGain, .inl (C 0, 1189, .inl t_firstOfGain)), (q_firstOfJoy, .inl (C 0, 1189, .inl t_firstOfJoy)), (q1, .inr (0, [.ref q1_weight, .ref q1_gain, .ref q1_joy, .ref q1_barred, .ref q1_needed, .int t1_sets, .int t1_limit, .int t1_mustSet, .int t1_neverSet])), (q1_gain, .inl (C 0, 4096, .inl t1_gain)), (q_nextOfGain, .inl (C 0, 4096, .inl t_nextOfGain)), (q_nextOfJoy, .inl (C 0, 4096, .inl t_nextOfJoy))]) [0, 1, 2, 3, 4, 5, 6] rfl
        have hD9 := hD.sub (ws' := [(q, .inr (3, [.ref q_layer, .ref q_size, .int t_count, .ref q_topJoy, .ref q_firstOfJoy, .ref q_nextOfJoy, .ref q_firstOfGain, .ref q_nextOfGain])), (q_firstOfGain, .inl (C 0, 1189, .inl t_firstOfGain)), (q_firstOfJoy, .inl (C 0, 1189, .inl t_firstOfJoy)), (q1, .inr (0, [.ref q1_weight, .ref q1_gain, .ref q1_joy, .ref q1_barred, .ref q1_needed, .int t1_sets, .int t1_limit, .int t1_mustSet, .int t1_neverSet])), (q1_gain, .inl (C 0, 4096, .inl t1_gain)), (q_nextOfGain, .inl (C 0, 4096, .inl t_nextOfGain)), (q_nextOfJoy, .inl (C 0, 4096, .inl t_nextOfJoy))]) [0, 1, 2, 3, 4, 5, 6] (by decide) rfl
        exact ih (x2 + 1) t_firstOfGain t_nextOfGain H locs ls hl9 hP9 hD9 hS hwp
  unfold wp_X3_sortByGain at hwp
  obtain ⟨H, hH⟩ : ∃ H, H = s.heap := ⟨_, rfl⟩
  obtain ⟨locs, hlo⟩ : ∃ z : List Loc, z = [] := ⟨_, rfl⟩
  have hP : va_P D vwCl [(q, .inr (3, [.ref q_layer, .ref q_size, .int t_count, .ref q_topJoy, .ref q_firstOfJoy, .ref q_nextOfJoy, .ref q_firstOfGain, .ref q_nextOfGain])), (q_firstOfGain, .inl (C 0, 1189, .inl t_firstOfGain)), (q_firstOfJoy, .inl (C 0, 1189, .inl t_firstOfJoy)), (q1, .inr (0, [.ref q1_weight, .ref q1_gain, .ref q1_joy, .ref q1_barred, .ref q1_needed, .int t1_sets, .int t1_limit, .int t1_mustSet, .int t1_neverSet])), (q1_gain, .inl (C 0, 4096, .inl t1_gain)), (q_nextOfGain, .inl (C 0, 4096, .inl t_nextOfGain)), (q_nextOfJoy, .inl (C 0, 4096, .inl t_nextOfJoy))] H := by rw [hH]; exact hP
  have hD : va_D A [(q, .inr (3, [.ref q_layer, .ref q_size, .int t_count, .ref q_topJoy, .ref q_firstOfJoy, .ref q_nextOfJoy, .ref q_firstOfGain, .ref q_nextOfGain])), (q_firstOfGain, .inl (C 0, 1189, .inl t_firstOfGain)), (q_firstOfJoy, .inl (C 0, 1189, .inl t_firstOfJoy)), (q1, .inr (0, [.ref q1_weight, .ref q1_gain, .ref q1_joy, .ref q1_barred, .ref q1_needed, .int t1_sets, .int t1_limit, .int t1_mustSet, .int t1_neverSet])), (q1_gain, .inl (C 0, 4096, .inl t1_gain)), (q_nextOfGain, .inl (C 0, 4096, .inl t_nextOfGain)), (q_nextOfJoy, .inl (C 0, 4096, .inl t_nextOfJoy))] := hD
  have hS : va_S A s.heap H locs := by rw [hH, hlo]; exact hS
  suffices K : W p l e (headSpec ws_X3_sortByGain rm_X3_sortByGain).room s m ([.ref q, .ref q1] : List Value).toArray below meth c H locs 0 0 (MQ below (q_X3_sortByGain D C q q_layer q_size q_topJoy q_firstOfJoy q_nextOfJoy q_firstOfGain q_nextOfGain q1 q1_weight q1_gain q1_joy q1_barred q1_needed t_count t_firstOfJoy t1_sets t1_limit t1_mustSet t1_neverSet t1_gain t_nextOfJoy Q A) ([.ref q, .ref q1] : List Value).toArray s 0 0 A) (F0 m 0 ls []) from by rw [hH, hlo] at K; exact K
  refine lv_aload_n hx hb dX3_sortByGain_0 rfl (lv_at hl 0 rfl) ?_
  refine va_get (D := D) (ci := 3) (v := .ref q_firstOfGain) (C := RX3) (T := TX3) (N := 8) hx hb hts iwX3 hown hK hP 0 rfl rfl 6 (by decide) (hts (.fieldLink RX3 27 "ParetoDesk$Layers" "firstOfGain" "[I") wd_359) (fun _ h9 => h9) rfl dX3_sortByGain_1 ?_
  refine lv_iconst (v := (-1)) hx hb dX3_sortByGain_4 (by decide) ?_
  have hPc := hP.sub (ws' := [(q_firstOfGain, .inl (C 0, 1189, .inl t_firstOfGain))]) [1] rfl
  have hDc := hD.sub (ws' := [(q_firstOfGain, .inl (C 0, 1189, .inl t_firstOfGain))]) [1] (by decide) rfl
  have hFc := va_free (wc := [(q_firstOfGain, .inl (C 0, 1189, .inl t_firstOfGain))]) hD hS hA [1] rfl
  refine va_callv (va_runS (As := [.ref q_firstOfGain, .int (-1 : Int32)]) (rest := []) ⟨hx, hb, hml, hown, hts⟩ (met_J7_fill_53178 l D C q_firstOfGain (-1 : Int32) t_firstOfGain H.size _ hwp) (va_cwS 2 hts gc_X3_48 rfl rfl rfl (by decide +kernel) ⟨Nat.le_of_ble_eq_true rfl, Nat.le_of_ble_eq_true rfl⟩) ⟨fun a U g mk q => by obtain ⟨q0, q1, qP, qK, qD⟩ := q; exact ⟨q0, q1, qP, va_K.moved (u := U) (U := U.calling g mk a) (Vm.Alike.refl U.vm) qK, qD⟩, fun U hU hW => ⟨rfl, by rw [hU], by rw [hU]; exact hPc, va_K.moved hW.alike hK, hDc.weaken (fun _ _ _ _ => trivial)⟩⟩ rfl rfl hl.1 rfl (lv_room (Nat.le_of_ble_eq_true rfl)) dX3_sortByGain_5 ⟨Nat.zero_le _, Nat.zero_le _⟩) hS (fun q _ h => hFc q h) hFc (fun u t H1 locs ht hvm hwp hB hz1 hk1 hS => ?_)
  obtain ⟨u5_1, rfl⟩ : ∃ z, z = u := ⟨_, rfl⟩
  obtain ⟨hP1, -, hD1⟩ := hB
  rw [ht] at hP1
  obtain ⟨hP, hD⟩ := va_join (wr := [(q, .inr (3, [.ref q_layer, .ref q_size, .int t_count, .ref q_topJoy, .ref q_firstOfJoy, .ref q_nextOfJoy, .ref q_firstOfGain, .ref q_nextOfGain])), (q_firstOfJoy, .inl (C 0, 1189, .inl t_firstOfJoy)), (q1, .inr (0, [.ref q1_weight, .ref q1_gain, .ref q1_joy, .ref q1_barred, .ref q1_needed, .int t1_sets, .int t1_limit, .int t1_mustSet, .int t1_neverSet])), (q1_gain, .inl (C 0, 4096, .inl t1_gain)), (q_nextOfGain, .inl (C 0, 4096, .inl t_nextOfGain)), (q_nextOfJoy, .inl (C 0, 4096, .inl t_nextOfJoy))]) (w1 := [(q_firstOfGain, .inl (C 0, 1189, .inl u5_1))]) hP hD [1] [0, 2, 3, 4, 5, 6] rfl rfl (by decide) (by decide) hk1 hFc hP1 hD1
  generalize H1 = H at hP hS ⊢
  have hP : va_P D vwCl [(q, .inr (3, [.ref q_layer, .ref q_size, .int t_count, .ref q_topJoy, .ref q_firstOfJoy, .ref q_nextOfJoy, .ref q_firstOfGain, .ref q_nextOfGain])), (q_firstOfJoy, .inl (C 0, 1189, .inl t_firstOfJoy)), (q1, .inr (0, [.ref q1_weight, .ref q1_gain, .ref q1_joy, .ref q1_barred, .ref q1_needed, .int t1_sets, .int t1_limit, .int t1_mustSet, .int t1_neverSet])), (q1_gain, .inl (C 0, 4096, .inl t1_gain)), (q_nextOfGain, .inl (C 0, 4096, .inl t_nextOfGain)), (q_nextOfJoy, .inl (C 0, 4096, .inl t_nextOfJoy)), (q_firstOfGain, .inl (C 0, 1189, .inl u5_1))] H := hP
  have hD : va_D A [(q, .inr (3, [.ref q_layer, .ref q_size, .int t_count, .ref q_topJoy, .ref q_firstOfJoy, .ref q_nextOfJoy, .ref q_firstOfGain, .ref q_nextOfGain])), (q_firstOfJoy, .inl (C 0, 1189, .inl t_firstOfJoy)), (q1, .inr (0, [.ref q1_weight, .ref q1_gain, .ref q1_joy, .ref q1_barred, .ref q1_needed, .int t1_sets, .int t1_limit, .int t1_mustSet, .int t1_neverSet])), (q1_gain, .inl (C 0, 4096, .inl t1_gain)), (q_nextOfGain, .inl (C 0, 4096, .inl t_nextOfGain)), (q_nextOfJoy, .inl (C 0, 4096, .inl t_nextOfJoy)), (q_firstOfGain, .inl (C 0, 1189, .inl u5_1))] := hD
  refine lv_iconst (v := 0) hx hb dX3_sortByGain_8 (by decide) ?_
  refine lv_istore_n (lv' := [(2, .int (0 : Int32)), (0, .ref q), (1, .ref q1)]) hx hb dX3_sortByGain_9 rfl hl (by decide) rfl (fun ls hl => ?_)
  have hl9 := lv_sub (l' := [(0, .ref q), (1, .ref q1), (2, .int (0 : Int32))]) hl [1, 2, 0] rfl
  have hP9 := hP.sub (ws' := [(q, .inr (3, [.ref q_layer, .ref q_size, .int t_count, .ref q_topJoy, .ref q_firstOfJoy, .ref q_nextOfJoy, .ref q_firstOfGain, .ref q_nextOfGain])), (q_firstOfGain, .inl (C 0, 1189, .inl u5_1)), (q_firstOfJoy, .inl (C 0, 1189, .inl t_firstOfJoy)), (q1, .inr (0, [.ref q1_weight, .ref q1_gain, .ref q1_joy, .ref q1_barred, .ref q1_needed, .int t1_sets, .int t1_limit, .int t1_mustSet, .int t1_neverSet])), (q1_gain, .inl (C 0, 4096, .inl t1_gain)), (q_nextOfGain, .inl (C 0, 4096, .inl t_nextOfGain)), (q_nextOfJoy, .inl (C 0, 4096, .inl t_nextOfJoy))]) [0, 6, 1, 2, 3, 4, 5] rfl
  have hD9 := hD.sub (ws' := [(q, .inr (3, [.ref q_layer, .ref q_size, .int t_count, .ref q_topJoy, .ref q_firstOfJoy, .ref q_nextOfJoy, .ref q_firstOfGain, .ref q_nextOfGain])), (q_firstOfGain, .inl (C 0, 1189, .inl u5_1)), (q_firstOfJoy, .inl (C 0, 1189, .inl t_firstOfJoy)), (q1, .inr (0, [.ref q1_weight, .ref q1_gain, .ref q1_joy, .ref q1_barred, .ref q1_needed, .int t1_sets, .int t1_limit, .int t1_mustSet, .int t1_neverSet])), (q1_gain, .inl (C 0, 4096, .inl t1_gain)), (q_nextOfGain, .inl (C 0, 4096, .inl t_nextOfGain)), (q_nextOfJoy, .inl (C 0, 4096, .inl t_nextOfJoy))]) [0, 6, 1, 2, 3, 4, 5] (by decide) rfl
  obtain ⟨nn9, hwp⟩ := hwp
  refine HL10  nn9 (0 : Int32) u5_1 t_nextOfGain H locs ls hl9 hP9 hD9 hS hwp
abbrev ws_X3_firstLayerBelow : List Cond := .code yX3_firstLayerBelow cX3_firstLayerBelow 6 (some .int) :: WALL
abbrev rm_X3_firstLayerBelow : Room := { frames := 0, cells := 0, slots := 0, locals := 0 }
abbrev w_X3_firstLayerBelow (C : Nat → ClassId) (q : Nat) (q_layer : Nat) (q_size : Nat) (q_topJoy : Nat) (q_firstOfJoy : Nat) (q_nextOfJoy : Nat) (q_firstOfGain : Nat) (q_nextOfGain : Nat) (t_count : Int32) (t_topJoy : Nat → Int32) : va_W := [(q, .inr (3, [.ref q_layer, .ref q_size, .int t_count, .ref q_topJoy, .ref q_firstOfJoy, .ref q_nextOfJoy, .ref q_firstOfGain, .ref q_nextOfGain])), (q_topJoy, .inl (C 0, 2378, .inl t_topJoy))]
abbrev q_X3_firstLayerBelow (D : va_G) (C : Nat → ClassId) (q : Nat) (q_layer : Nat) (q_size : Nat) (q_topJoy : Nat) (q_firstOfJoy : Nat) (q_nextOfJoy : Nat) (q_firstOfGain : Nat) (q_nextOfGain : Nat) (t_count : Int32) (t_topJoy : Nat → Int32) (Q : Int32 → Prop) (A : Nat → Prop) : Array Value → State → Outcome → State → Prop := va_Qi (fun (r : Int32) (u : Unit) => Q r) (fun (u : Unit) (t : State) => va_P D vwCl (w_X3_firstLayerBelow C q q_layer q_size q_topJoy q_firstOfJoy q_nextOfJoy q_firstOfGain q_nextOfGain t_count t_topJoy) t.heap ∧ va_K D vwCl (tyL C) t ∧ va_D A (w_X3_firstLayerBelow C q q_layer q_size q_topJoy q_firstOfJoy q_nextOfJoy q_firstOfGain q_nextOfGain t_count t_topJoy)) A
set_option maxHeartbeats 4000000 in
set_option maxRecDepth 100000 in
theorem met_X3_firstLayerBelow (l : Launch) (D : va_G) (C : Nat → ClassId) (q : Nat) (q_layer : Nat) (q_size : Nat) (q_topJoy : Nat) (q_firstOfJoy : Nat) (q_nextOfJoy : Nat) (q_firstOfGain : Nat) (q_nextOfGain : Nat) (p1 : Int32) (t_count : Int32) (t_topJoy : Nat → Int32) (sz : Nat) (Q : Int32 → Prop) (hwp : wp_X3_firstLayerBelow p1 t_count t_topJoy Q) : Met l yX3_firstLayerBelow ws_X3_firstLayerBelow rm_X3_firstLayerBelow (va_Pc [.ref q, .int p1] (fun U => U.heap.size = sz ∧ va_P D vwCl (w_X3_firstLayerBelow C q q_layer q_size q_topJoy q_firstOfJoy q_nextOfJoy q_firstOfGain q_nextOfGain t_count t_topJoy) U.heap ∧ va_K D vwCl (tyL C) U ∧ va_D (fun _ => True) (w_X3_firstLayerBelow C q q_layer q_size q_topJoy q_firstOfJoy q_nextOfJoy q_firstOfGain q_nextOfGain t_count t_topJoy))) (q_X3_firstLayerBelow D C q q_layer q_size q_topJoy q_firstOfJoy q_nextOfJoy q_firstOfGain q_nextOfGain t_count t_topJoy Q (va_A (w_X3_firstLayerBelow C q q_layer q_size q_topJoy q_firstOfJoy q_nextOfJoy q_firstOfGain q_nextOfGain t_count t_topJoy) sz)) 0 0 (va_A (w_X3_firstLayerBelow C q q_layer q_size q_topJoy q_firstOfJoy q_nextOfJoy q_firstOfGain q_nextOfGain t_count t_topJoy) sz) := by
  refine Met.ofW (cc := cX3_firstLayerBelow) (maxL := 6) (ret := (some .int)) (by decide) rfl ?_
  intro p e s m args below meth c s₁ B hml hv
  obtain ⟨rfl, hsz, hP, hK, hD0⟩ := hv
  have hx := B.exec
  have hb := B.bytes
  have hr := B.returns
  have hts : ∀ w ∈ WALL, w.before _ s = true := fun w h => atoms_spec (ws := ws_X3_firstLayerBelow) B.pre w (List.mem_cons_of_mem _ h)
  have hown : s.vm.findClass RX3 = some m.cls := findClass_of_methodNamed B.named
  have hlocks := B.notSynchronized
  subst hsz
  have hD := hD0.self (sz := s.heap.size)
  generalize hAe : va_A (w_X3_firstLayerBelow C q q_layer q_size q_topJoy q_firstOfJoy q_nextOfJoy q_firstOfGain q_nextOfGain t_count t_topJoy) s.heap.size = A at hD ⊢
  have hA : ∀ q : Nat, s.heap.size ≤ q → A q := fun q h => by rw [← hAe]; exact Or.inr h
  have hS : va_S A s.heap s.heap [] := va_S.rf
  have hl := lv_entry ([.ref q, .int p1]) (n := 6) (Nat.le_of_ble_eq_true rfl)
  rw [lg_entry_eq]
  generalize (lg_sl ([.ref q, .int p1]) ++ List.replicate (6 - (lg_sl ([.ref q, .int p1])).length) Slot.unset).toArray = ls at hl ⊢
  have hl : lv_has ls 6 [(0, .ref q), (1, .int p1)] := hl
  have HL10 : ∀ (x1 : Int32) (n10 : Nat) (x2 : Int32) (x3 : Int32) (x4 : Int32) (H : Heap) (locs : List Loc) (ls : Array Slot), lv_has ls 6 [(0, .ref q), (1, .int x1), (2, .int x2), (3, .int x3), (4, .int x4)] → va_P D vwCl [(q, .inr (3, [.ref q_layer, .ref q_size, .int t_count, .ref q_topJoy, .ref q_firstOfJoy, .ref q_nextOfJoy, .ref q_firstOfGain, .ref q_nextOfGain])), (q_topJoy, .inl (C 0, 2378, .inl t_topJoy))] H → va_D A [(q, .inr (3, [.ref q_layer, .ref q_size, .int t_count, .ref q_topJoy, .ref q_firstOfJoy, .ref q_nextOfJoy, .ref q_firstOfGain, .ref q_nextOfGain])), (q_topJoy, .inl (C 0, 2378, .inl t_topJoy))] → va_S A s.heap H locs → wp_X3_firstLayerBelow_L10 t_count t_topJoy x1 Q n10 x2 x3 x4 → W p l e (headSpec ws_X3_firstLayerBelow rm_X3_firstLayerBelow).room s m ([.ref q, .int p1] : List Value).toArray below meth c H locs 0 0 (MQ below (q_X3_firstLayerBelow D C q q_layer q_size q_topJoy q_firstOfJoy q_nextOfJoy q_firstOfGain q_nextOfGain t_count t_topJoy Q A) ([.ref q, .int p1] : List Value).toArray s 0 0 A) (F0 m 10 ls []) := by
    intro x1 n10
    induction n10 with
    | zero =>
      intro x2 x3 x4 H locs ls hl hP hD hS hwp
      exact False.elim hwp
    | succ n10 ih =>
      intro x2 x3 x4 H locs ls hl hP hD hS hwp
      unfold wp_X3_firstLayerBelow_L10 at hwp
      refine lv_iload hx hb dX3_firstLayerBelow_10 (lv_at hl 4 rfl) ?_
      refine lv_sipush (v := 2378) hx hb dX3_firstLayerBelow_12 (by decide) ?_
      refine lv_icmp_ge (tgt := 60) hx hb dX3_firstLayerBelow_15 (by decide) (fun c15 => ?_) (fun c15 => ?_)
      · have hwp := hwp.1 c15
        refine lv_iload_n hx hb dX3_firstLayerBelow_60 rfl (lv_at hl 2 rfl) ?_
        have hP9 := hP.sub (ws' := [(q, .inr (3, [.ref q_layer, .ref q_size, .int t_count, .ref q_topJoy, .ref q_firstOfJoy, .ref q_nextOfJoy, .ref q_firstOfGain, .ref q_nextOfGain])), (q_topJoy, .inl (C 0, 2378, .inl t_topJoy))]) [0, 1] rfl
        have hD9 := hD.sub (ws' := [(q, .inr (3, [.ref q_layer, .ref q_size, .int t_count, .ref q_topJoy, .ref q_firstOfJoy, .ref q_nextOfJoy, .ref q_firstOfGain, .ref q_nextOfGain])), (q_topJoy, .inl (C 0, 2378, .inl t_topJoy))]) [0, 1] (by decide) rfl
        exact W.iret (v := x2) hx hb hr (fun t ht hW => ⟨⟨x2, (), rfl, hwp, by rw [ht]; exact hP9, va_K.moved hW.alike hK, hD9⟩, hS.F ht⟩) hS.2.2 dX3_firstLayerBelow_61
      · have hwp := hwp.2 c15
        refine lv_iload_n hx hb dX3_firstLayerBelow_18 rfl (lv_at hl 2 rfl) ?_
        refine lv_iload_n hx hb dX3_firstLayerBelow_19 rfl (lv_at hl 3 rfl) ?_
        refine lv_icmp_ge (tgt := 60) hx hb dX3_firstLayerBelow_20 (by decide) (fun c20 => ?_) (fun c20 => ?_)
        · have hwp := hwp.1 c20
          refine lv_iload_n hx hb dX3_firstLayerBelow_60 rfl (lv_at hl 2 rfl) ?_
          have hP9 := hP.sub (ws' := [(q, .inr (3, [.ref q_layer, .ref q_size, .int t_count, .ref q_topJoy, .ref q_firstOfJoy, .ref q_nextOfJoy, .ref q_firstOfGain, .ref q_nextOfGain])), (q_topJoy, .inl (C 0, 2378, .inl t_topJoy))]) [0, 1] rfl
          have hD9 := hD.sub (ws' := [(q, .inr (3, [.ref q_layer, .ref q_size, .int t_count, .ref q_topJoy, .ref q_firstOfJoy, .ref q_nextOfJoy, .ref q_firstOfGain, .ref q_nextOfGain])), (q_topJoy, .inl (C 0, 2378, .inl t_topJoy))]) [0, 1] (by decide) rfl
          exact W.iret (v := x2) hx hb hr (fun t ht hW => ⟨⟨x2, (), rfl, hwp, by rw [ht]; exact hP9, va_K.moved hW.alike hK, hD9⟩, hS.F ht⟩) hS.2.2 dX3_firstLayerBelow_61
        · have hwp := hwp.2 c20
          refine lv_iload_n hx hb dX3_firstLayerBelow_23 rfl (lv_at hl 2 rfl) ?_
          refine lv_iload_n hx hb dX3_firstLayerBelow_24 rfl (lv_at hl 3 rfl) ?_
          refine lv_iload_n hx hb dX3_firstLayerBelow_25 rfl (lv_at hl 2 rfl) ?_
          refine lv_isub hx hb dX3_firstLayerBelow_26 ?_
          refine lv_iconst (v := 2) hx hb dX3_firstLayerBelow_27 (by decide) ?_
          refine lv_idiv hx hb dX3_firstLayerBelow_28 (by decide) ?_
          refine lv_iadd hx hb dX3_firstLayerBelow_29 ?_
          refine lv_topi (fun v30 ev30 => ?_)
          have hwp := hwp v30 ev30
          refine lv_istore (lv' := [(5, .int v30), (0, .ref q), (1, .int x1), (2, .int x2), (3, .int x3), (4, .int x4)]) hx hb dX3_firstLayerBelow_30 hl (by decide) rfl (fun ls hl => ?_)
          refine lv_aload_n hx hb dX3_firstLayerBelow_32 rfl (lv_at hl 1 rfl) ?_
          refine va_get (D := D) (ci := 3) (v := .ref q_topJoy) (C := RX3) (T := TX3) (N := 8) hx hb hts iwX3 hown hK hP 0 rfl rfl 3 (by decide) (hts (.fieldLink RX3 18 "ParetoDesk$Layers" "topJoy" "[I") wd_356) (fun _ h9 => h9) rfl dX3_firstLayerBelow_33 ?_
          refine lv_iload hx hb dX3_firstLayerBelow_36 (lv_at hl 0 rfl) ?_
          obtain ⟨hi38, hwp⟩ := hwp
          refine va_iald (D := D) hx hb hK hP 1 0 rfl rfl hi38 dX3_firstLayerBelow_38 ?_
          refine lv_iload_n hx hb dX3_firstLayerBelow_39 rfl (lv_at hl 2 rfl) ?_
          refine lv_icmp_lt (tgt := 51) hx hb dX3_firstLayerBelow_40 (by decide) (fun c40 => ?_) (fun c40 => ?_)
          · have hwp := hwp.1 c40
            refine lv_iload hx hb dX3_firstLayerBelow_51 (lv_at hl 0 rfl) ?_
            refine lv_istore_n (lv' := [(3, .int v30), (5, .int v30), (0, .ref q), (1, .int x1), (2, .int x2), (4, .int x4)]) hx hb dX3_firstLayerBelow_53 rfl hl (by decide) rfl (fun ls hl => ?_)
            refine lv_iinc (v := x4 + 1) (lv' := [(4, .int (x4 + 1)), (3, .int v30), (5, .int v30), (0, .ref q), (1, .int x1), (2, .int x2)]) hx hb dX3_firstLayerBelow_54 hl (k := 5) rfl rfl (by decide) rfl (fun ls hl => ?_)
            refine lv_goto (tgt := 10) hx hb dX3_firstLayerBelow_57 (by decide) ?_
            have hl9 := lv_sub (l' := [(0, .ref q), (1, .int x1), (2, .int x2), (3, .int v30), (4, .int (x4 + 1))]) hl [3, 4, 5, 1, 0] rfl
            have hP9 := hP.sub (ws' := [(q, .inr (3, [.ref q_layer, .ref q_size, .int t_count, .ref q_topJoy, .ref q_firstOfJoy, .ref q_nextOfJoy, .ref q_firstOfGain, .ref q_nextOfGain])), (q_topJoy, .inl (C 0, 2378, .inl t_topJoy))]) [0, 1] rfl
            have hD9 := hD.sub (ws' := [(q, .inr (3, [.ref q_layer, .ref q_size, .int t_count, .ref q_topJoy, .ref q_firstOfJoy, .ref q_nextOfJoy, .ref q_firstOfGain, .ref q_nextOfGain])), (q_topJoy, .inl (C 0, 2378, .inl t_topJoy))]) [0, 1] (by decide) rfl
            exact ih x2 v30 (x4 + 1) H locs ls hl9 hP9 hD9 hS hwp
          · have hwp := hwp.2 c40
            refine lv_iload hx hb dX3_firstLayerBelow_43 (lv_at hl 0 rfl) ?_
            refine lv_iconst (v := 1) hx hb dX3_firstLayerBelow_45 (by decide) ?_
            refine lv_iadd hx hb dX3_firstLayerBelow_46 ?_
            refine lv_topi (fun v47 ev47 => ?_)
            have hwp := hwp v47 ev47
            refine lv_istore_n (lv' := [(2, .int v47), (5, .int v30), (0, .ref q), (1, .int x1), (3, .int x3), (4, .int x4)]) hx hb dX3_firstLayerBelow_47 rfl hl (by decide) rfl (fun ls hl => ?_)
            refine lv_goto (tgt := 54) hx hb dX3_firstLayerBelow_48 (by decide) ?_
            refine lv_iinc (v := x4 + 1) (lv' := [(4, .int (x4 + 1)), (2, .int v47), (5, .int v30), (0, .ref q), (1, .int x1), (3, .int x3)]) hx hb dX3_firstLayerBelow_54 hl (k := 5) rfl rfl (by decide) rfl (fun ls hl => ?_)
            refine lv_goto (tgt := 10) hx hb dX3_firstLayerBelow_57 (by decide) ?_
            have hl9 := lv_sub (l' := [(0, .ref q), (1, .int x1), (2, .int v47), (3, .int x3), (4, .int (x4 + 1))]) hl [3, 4, 1, 5, 0] rfl
            have hP9 := hP.sub (ws' := [(q, .inr (3, [.ref q_layer, .ref q_size, .int t_count, .ref q_topJoy, .ref q_firstOfJoy, .ref q_nextOfJoy, .ref q_firstOfGain, .ref q_nextOfGain])), (q_topJoy, .inl (C 0, 2378, .inl t_topJoy))]) [0, 1] rfl
            have hD9 := hD.sub (ws' := [(q, .inr (3, [.ref q_layer, .ref q_size, .int t_count, .ref q_topJoy, .ref q_firstOfJoy, .ref q_nextOfJoy, .ref q_firstOfGain, .ref q_nextOfGain])), (q_topJoy, .inl (C 0, 2378, .inl t_topJoy))]) [0, 1] (by decide) rfl
            exact ih v47 x3 (x4 + 1) H locs ls hl9 hP9 hD9 hS hwp
  unfold wp_X3_firstLayerBelow at hwp
  obtain ⟨H, hH⟩ : ∃ H, H = s.heap := ⟨_, rfl⟩
  obtain ⟨locs, hlo⟩ : ∃ z : List Loc, z = [] := ⟨_, rfl⟩
  have hP : va_P D vwCl [(q, .inr (3, [.ref q_layer, .ref q_size, .int t_count, .ref q_topJoy, .ref q_firstOfJoy, .ref q_nextOfJoy, .ref q_firstOfGain, .ref q_nextOfGain])), (q_topJoy, .inl (C 0, 2378, .inl t_topJoy))] H := by rw [hH]; exact hP
  have hD : va_D A [(q, .inr (3, [.ref q_layer, .ref q_size, .int t_count, .ref q_topJoy, .ref q_firstOfJoy, .ref q_nextOfJoy, .ref q_firstOfGain, .ref q_nextOfGain])), (q_topJoy, .inl (C 0, 2378, .inl t_topJoy))] := hD
  have hS : va_S A s.heap H locs := by rw [hH, hlo]; exact hS
  suffices K : W p l e (headSpec ws_X3_firstLayerBelow rm_X3_firstLayerBelow).room s m ([.ref q, .int p1] : List Value).toArray below meth c H locs 0 0 (MQ below (q_X3_firstLayerBelow D C q q_layer q_size q_topJoy q_firstOfJoy q_nextOfJoy q_firstOfGain q_nextOfGain t_count t_topJoy Q A) ([.ref q, .int p1] : List Value).toArray s 0 0 A) (F0 m 0 ls []) from by rw [hH, hlo] at K; exact K
  refine lv_iconst (v := 0) hx hb dX3_firstLayerBelow_0 (by decide) ?_
  refine lv_istore_n (lv' := [(2, .int (0 : Int32)), (0, .ref q), (1, .int p1)]) hx hb dX3_firstLayerBelow_1 rfl hl (by decide) rfl (fun ls hl => ?_)
  refine lv_aload_n hx hb dX3_firstLayerBelow_2 rfl (lv_at hl 1 rfl) ?_
  refine va_get (D := D) (ci := 3) (v := .int t_count) (C := RX3) (T := TX3) (N := 8) hx hb hts iwX3 hown hK hP 0 rfl rfl 2 (by decide) (hts (.fieldLink RX3 33 "ParetoDesk$Layers" "count" "I") wd_354) (fun _ h9 => h9) rfl dX3_firstLayerBelow_3 ?_
  refine lv_istore_n (lv' := [(3, .int t_count), (2, .int (0 : Int32)), (0, .ref q), (1, .int p1)]) hx hb dX3_firstLayerBelow_6 rfl hl (by decide) rfl (fun ls hl => ?_)
  refine lv_iconst (v := 0) hx hb dX3_firstLayerBelow_7 (by decide) ?_
  refine lv_istore (lv' := [(4, .int (0 : Int32)), (3, .int t_count), (2, .int (0 : Int32)), (0, .ref q), (1, .int p1)]) hx hb dX3_firstLayerBelow_8 hl (by decide) rfl (fun ls hl => ?_)
  have hl9 := lv_sub (l' := [(0, .ref q), (1, .int p1), (2, .int (0 : Int32)), (3, .int t_count), (4, .int (0 : Int32))]) hl [3, 4, 2, 1, 0] rfl
  have hP9 := hP.sub (ws' := [(q, .inr (3, [.ref q_layer, .ref q_size, .int t_count, .ref q_topJoy, .ref q_firstOfJoy, .ref q_nextOfJoy, .ref q_firstOfGain, .ref q_nextOfGain])), (q_topJoy, .inl (C 0, 2378, .inl t_topJoy))]) [0, 1] rfl
  have hD9 := hD.sub (ws' := [(q, .inr (3, [.ref q_layer, .ref q_size, .int t_count, .ref q_topJoy, .ref q_firstOfJoy, .ref q_nextOfJoy, .ref q_firstOfGain, .ref q_nextOfGain])), (q_topJoy, .inl (C 0, 2378, .inl t_topJoy))]) [0, 1] (by decide) rfl
  obtain ⟨nn9, hwp⟩ := hwp
  refine HL10 p1 nn9 (0 : Int32) t_count (0 : Int32) H locs ls hl9 hP9 hD9 hS hwp
abbrev ws_X3_placePair : List Cond := .code yX3_placePair cX3_placePair 3 (some .int) :: WALL
theorem gc_X3_77 : GoodIn WALL (wsV RX3 77 RX3 yX3_firstLayerBelow ws_X3_firstLayerBelow) := gc_v wd_1179 wd_1181 wd_33 wd_44 wd_1182
abbrev rm_X3_placePair : Room := { frames := 1, cells := 0, slots := 0, locals := 25 }
abbrev w_X3_placePair (C : Nat → ClassId) (q : Nat) (q_layer : Nat) (q_size : Nat) (q_topJoy : Nat) (q_firstOfJoy : Nat) (q_nextOfJoy : Nat) (q_firstOfGain : Nat) (q_nextOfGain : Nat) (t_count : Int32) (t_topJoy : Nat → Int32) (t_size : Nat → Int32) : va_W := [(q, .inr (3, [.ref q_layer, .ref q_size, .int t_count, .ref q_topJoy, .ref q_firstOfJoy, .ref q_nextOfJoy, .ref q_firstOfGain, .ref q_nextOfGain])), (q_topJoy, .inl (C 0, 2378, .inl t_topJoy)), (q_size, .inl (C 0, 2378, .inl t_size))]
abbrev q_X3_placePair (D : va_G) (C : Nat → ClassId) (q : Nat) (q_layer : Nat) (q_size : Nat) (q_topJoy : Nat) (q_firstOfJoy : Nat) (q_nextOfJoy : Nat) (q_firstOfGain : Nat) (q_nextOfGain : Nat) (Q : Int32 → Int32 → (Nat → Int32) → (Nat → Int32) → Prop) (A : Nat → Prop) : Array Value → State → Outcome → State → Prop := va_Qi (fun (r : Int32) (u : Int32 × (Nat → Int32) × (Nat → Int32)) => Q r u.1 u.2.1 u.2.2) (fun (u : Int32 × (Nat → Int32) × (Nat → Int32)) (t : State) => va_P D vwCl (w_X3_placePair C q q_layer q_size q_topJoy q_firstOfJoy q_nextOfJoy q_firstOfGain q_nextOfGain u.1 u.2.1 u.2.2) t.heap ∧ va_K D vwCl (tyL C) t ∧ va_D A (w_X3_placePair C q q_layer q_size q_topJoy q_firstOfJoy q_nextOfJoy q_firstOfGain q_nextOfGain u.1 u.2.1 u.2.2)) A
set_option maxHeartbeats 4000000 in
set_option maxRecDepth 100000 in
theorem met_X3_placePair (l : Launch) (D : va_G) (C : Nat → ClassId) (q : Nat) (q_layer : Nat) (q_size : Nat) (q_topJoy : Nat) (q_firstOfJoy : Nat) (q_nextOfJoy : Nat) (q_firstOfGain : Nat) (q_nextOfGain : Nat) (p1 : Int32) (t_count : Int32) (t_topJoy : Nat → Int32) (t_size : Nat → Int32) (sz : Nat) (Q : Int32 → Int32 → (Nat → Int32) → (Nat → Int32) → Prop) (hwp : wp_X3_placePair p1 t_count t_topJoy t_size Q) : Met l yX3_placePair ws_X3_placePair rm_X3_placePair (va_Pc [.ref q, .int p1] (fun U => U.heap.size = sz ∧ va_P D vwCl (w_X3_placePair C q q_layer q_size q_topJoy q_firstOfJoy q_nextOfJoy q_firstOfGain q_nextOfGain t_count t_topJoy t_size) U.heap ∧ va_K D vwCl (tyL C) U ∧ va_D (fun _ => True) (w_X3_placePair C q q_layer q_size q_topJoy q_firstOfJoy q_nextOfJoy q_firstOfGain q_nextOfGain t_count t_topJoy t_size))) (q_X3_placePair D C q q_layer q_size q_topJoy q_firstOfJoy q_nextOfJoy q_firstOfGain q_nextOfGain Q (va_A (w_X3_placePair C q q_layer q_size q_topJoy q_firstOfJoy q_nextOfJoy q_firstOfGain q_nextOfGain t_count t_topJoy t_size) sz)) 0 0 (va_A (w_X3_placePair C q q_layer q_size q_topJoy q_firstOfJoy q_nextOfJoy q_firstOfGain q_nextOfGain t_count t_topJoy t_size) sz) := by
  refine Met.ofW (cc := cX3_placePair) (maxL := 3) (ret := (some .int)) (by decide) rfl ?_
  intro p e s m args below meth c s₁ B hml hv
  obtain ⟨rfl, hsz, hP, hK, hD0⟩ := hv
  have hx := B.exec
  have hb := B.bytes
  have hr := B.returns
  have hts : ∀ w ∈ WALL, w.before _ s = true := fun w h => atoms_spec (ws := ws_X3_placePair) B.pre w (List.mem_cons_of_mem _ h)
  have hown : s.vm.findClass RX3 = some m.cls := findClass_of_methodNamed B.named
  have hlocks := B.notSynchronized
  subst hsz
  have hD := hD0.self (sz := s.heap.size)
  generalize hAe : va_A (w_X3_placePair C q q_layer q_size q_topJoy q_firstOfJoy q_nextOfJoy q_firstOfGain q_nextOfGain t_count t_topJoy t_size) s.heap.size = A at hD ⊢
  have hA : ∀ q : Nat, s.heap.size ≤ q → A q := fun q h => by rw [← hAe]; exact Or.inr h
  have hS : va_S A s.heap s.heap [] := va_S.rf
  have hl := lv_entry ([.ref q, .int p1]) (n := 3) (Nat.le_of_ble_eq_true rfl)
  rw [lg_entry_eq]
  generalize (lg_sl ([.ref q, .int p1]) ++ List.replicate (3 - (lg_sl ([.ref q, .int p1])).length) Slot.unset).toArray = ls at hl ⊢
  have hl : lv_has ls 3 [(0, .ref q), (1, .int p1)] := hl
  have HB40 : ∀  (x1 : Int32) (x2 : Int32) (t_count : Int32) (t_topJoy : Nat → Int32) (t_size : Nat → Int32) (H : Heap) (locs : List Loc) (ls : Array Slot), lv_has ls 3 [(0, .ref q), (1, .int x1), (2, .int x2)] → va_P D vwCl [(q, .inr (3, [.ref q_layer, .ref q_size, .int t_count, .ref q_topJoy, .ref q_firstOfJoy, .ref q_nextOfJoy, .ref q_firstOfGain, .ref q_nextOfGain])), (q_topJoy, .inl (C 0, 2378, .inl t_topJoy)), (q_size, .inl (C 0, 2378, .inl t_size))] H → va_D A [(q, .inr (3, [.ref q_layer, .ref q_size, .int t_count, .ref q_topJoy, .ref q_firstOfJoy, .ref q_nextOfJoy, .ref q_firstOfGain, .ref q_nextOfGain])), (q_topJoy, .inl (C 0, 2378, .inl t_topJoy)), (q_size, .inl (C 0, 2378, .inl t_size))] → va_S A s.heap H locs → wp_X3_placePair_b40 Q x1 x2 t_count t_topJoy t_size → W p l e (headSpec ws_X3_placePair rm_X3_placePair).room s m ([.ref q, .int p1] : List Value).toArray below meth c H locs 0 0 (MQ below (q_X3_placePair D C q q_layer q_size q_topJoy q_firstOfJoy q_nextOfJoy q_firstOfGain q_nextOfGain Q A) ([.ref q, .int p1] : List Value).toArray s 0 0 A) (F0 m 40 ls []) := by
    intro x1 x2 t_count t_topJoy t_size H locs ls hl hP hD hS hwp
    unfold wp_X3_placePair_b40 at hwp
    refine lv_aload_n hx hb dX3_placePair_40 rfl (lv_at hl 0 rfl) ?_
    refine va_get (D := D) (ci := 3) (v := .ref q_topJoy) (C := RX3) (T := TX3) (N := 8) hx hb hts iwX3 hown hK hP 0 rfl rfl 3 (by decide) (hts (.fieldLink RX3 18 "ParetoDesk$Layers" "topJoy" "[I") wd_356) (fun _ h9 => h9) rfl dX3_placePair_41 ?_
    refine lv_iload_n hx hb dX3_placePair_44 rfl (lv_at hl 2 rfl) ?_
    refine lv_iload_n hx hb dX3_placePair_45 rfl (lv_at hl 1 rfl) ?_
    obtain ⟨hi46, hwp⟩ := hwp
    refine va_iast (D := D) hx hb hK hP hD hS 1 0 rfl rfl hi46 dX3_placePair_46 (fun H locs hP hD hS => ?_)
    have hP : va_P D vwCl [(q, .inr (3, [.ref q_layer, .ref q_size, .int t_count, .ref q_topJoy, .ref q_firstOfJoy, .ref q_nextOfJoy, .ref q_firstOfGain, .ref q_nextOfGain])), (q_topJoy, .inl (C 0, 2378, .inl (upd t_topJoy x2.toNatClampNeg x1))), (q_size, .inl (C 0, 2378, .inl t_size))] H := hP
    have hD : va_D A [(q, .inr (3, [.ref q_layer, .ref q_size, .int t_count, .ref q_topJoy, .ref q_firstOfJoy, .ref q_nextOfJoy, .ref q_firstOfGain, .ref q_nextOfGain])), (q_topJoy, .inl (C 0, 2378, .inl (upd t_topJoy x2.toNatClampNeg x1))), (q_size, .inl (C 0, 2378, .inl t_size))] := hD
    refine lv_aload_n hx hb dX3_placePair_47 rfl (lv_at hl 0 rfl) ?_
    refine va_get (D := D) (ci := 3) (v := .ref q_size) (C := RX3) (T := TX3) (N := 8) hx hb hts iwX3 hown hK hP 0 rfl rfl 1 (by decide) (hts (.fieldLink RX3 15 "ParetoDesk$Layers" "size" "[I") wd_352) (fun _ h9 => h9) rfl dX3_placePair_48 ?_
    refine lv_iload_n hx hb dX3_placePair_51 rfl (lv_at hl 2 rfl) ?_
    refine lv_dup2_11 hx hb dX3_placePair_52 rfl rfl ?_
    obtain ⟨hi53, hwp⟩ := hwp
    refine va_iald (D := D) hx hb hK hP 2 0 rfl rfl hi53 dX3_placePair_53 ?_
    refine lv_iconst (v := 1) hx hb dX3_placePair_54 (by decide) ?_
    refine lv_iadd hx hb dX3_placePair_55 ?_
    obtain ⟨hi56, hwp⟩ := hwp
    refine va_iast (D := D) hx hb hK hP hD hS 2 0 rfl rfl hi56 dX3_placePair_56 (fun H locs hP hD hS => ?_)
    have hP : va_P D vwCl [(q, .inr (3, [.ref q_layer, .ref q_size, .int t_count, .ref q_topJoy, .ref q_firstOfJoy, .ref q_nextOfJoy, .ref q_firstOfGain, .ref q_nextOfGain])), (q_topJoy, .inl (C 0, 2378, .inl (upd t_topJoy x2.toNatClampNeg x1))), (q_size, .inl (C 0, 2378, .inl (upd t_size x2.toNatClampNeg ((t_size x2.toNatClampNeg) + (1 : Int32)))))] H := hP
    have hD : va_D A [(q, .inr (3, [.ref q_layer, .ref q_size, .int t_count, .ref q_topJoy, .ref q_firstOfJoy, .ref q_nextOfJoy, .ref q_firstOfGain, .ref q_nextOfGain])), (q_topJoy, .inl (C 0, 2378, .inl (upd t_topJoy x2.toNatClampNeg x1))), (q_size, .inl (C 0, 2378, .inl (upd t_size x2.toNatClampNeg ((t_size x2.toNatClampNeg) + (1 : Int32)))))] := hD
    refine lv_iload_n hx hb dX3_placePair_57 rfl (lv_at hl 2 rfl) ?_
    have hP9 := hP.sub (ws' := [(q, .inr (3, [.ref q_layer, .ref q_size, .int t_count, .ref q_topJoy, .ref q_firstOfJoy, .ref q_nextOfJoy, .ref q_firstOfGain, .ref q_nextOfGain])), (q_topJoy, .inl (C 0, 2378, .inl (upd t_topJoy x2.toNatClampNeg x1))), (q_size, .inl (C 0, 2378, .inl (upd t_size x2.toNatClampNeg ((t_size x2.toNatClampNeg) + (1 : Int32)))))]) [0, 1, 2] rfl
    have hD9 := hD.sub (ws' := [(q, .inr (3, [.ref q_layer, .ref q_size, .int t_count, .ref q_topJoy, .ref q_firstOfJoy, .ref q_nextOfJoy, .ref q_firstOfGain, .ref q_nextOfGain])), (q_topJoy, .inl (C 0, 2378, .inl (upd t_topJoy x2.toNatClampNeg x1))), (q_size, .inl (C 0, 2378, .inl (upd t_size x2.toNatClampNeg ((t_size x2.toNatClampNeg) + (1 : Int32)))))]) [0, 1, 2] (by decide) rfl
    exact W.iret (v := x2) hx hb hr (fun t ht hW => ⟨⟨x2, (t_count, upd t_topJoy x2.toNatClampNeg x1, upd t_size x2.toNatClampNeg ((t_size x2.toNatClampNeg) + (1 : Int32))), rfl, hwp, by rw [ht]; exact hP9, va_K.moved hW.alike hK, hD9⟩, hS.F ht⟩) hS.2.2 dX3_placePair_58
  unfold wp_X3_placePair at hwp
  obtain ⟨H, hH⟩ : ∃ H, H = s.heap := ⟨_, rfl⟩
  obtain ⟨locs, hlo⟩ : ∃ z : List Loc, z = [] := ⟨_, rfl⟩
  have hP : va_P D vwCl [(q, .inr (3, [.ref q_layer, .ref q_size, .int t_count, .ref q_topJoy, .ref q_firstOfJoy, .ref q_nextOfJoy, .ref q_firstOfGain, .ref q_nextOfGain])), (q_topJoy, .inl (C 0, 2378, .inl t_topJoy)), (q_size, .inl (C 0, 2378, .inl t_size))] H := by rw [hH]; exact hP
  have hD : va_D A [(q, .inr (3, [.ref q_layer, .ref q_size, .int t_count, .ref q_topJoy, .ref q_firstOfJoy, .ref q_nextOfJoy, .ref q_firstOfGain, .ref q_nextOfGain])), (q_topJoy, .inl (C 0, 2378, .inl t_topJoy)), (q_size, .inl (C 0, 2378, .inl t_size))] := hD
  have hS : va_S A s.heap H locs := by rw [hH, hlo]; exact hS
  suffices K : W p l e (headSpec ws_X3_placePair rm_X3_placePair).room s m ([.ref q, .int p1] : List Value).toArray below meth c H locs 0 0 (MQ below (q_X3_placePair D C q q_layer q_size q_topJoy q_firstOfJoy q_nextOfJoy q_firstOfGain q_nextOfGain Q A) ([.ref q, .int p1] : List Value).toArray s 0 0 A) (F0 m 0 ls []) from by rw [hH, hlo] at K; exact K
  refine lv_aload_n hx hb dX3_placePair_0 rfl (lv_at hl 0 rfl) ?_
  refine lv_iload_n hx hb dX3_placePair_1 rfl (lv_at hl 1 rfl) ?_
  have hPc := hP.sub (ws' := [(q, .inr (3, [.ref q_layer, .ref q_size, .int t_count, .ref q_topJoy, .ref q_firstOfJoy, .ref q_nextOfJoy, .ref q_firstOfGain, .ref q_nextOfGain])), (q_topJoy, .inl (C 0, 2378, .inl t_topJoy))]) [0, 1] rfl
  have hDc := hD.sub (ws' := [(q, .inr (3, [.ref q_layer, .ref q_size, .int t_count, .ref q_topJoy, .ref q_firstOfJoy, .ref q_nextOfJoy, .ref q_firstOfGain, .ref q_nextOfGain])), (q_topJoy, .inl (C 0, 2378, .inl t_topJoy))]) [0, 1] (by decide) rfl
  have hFc := va_free (wc := [(q, .inr (3, [.ref q_layer, .ref q_size, .int t_count, .ref q_topJoy, .ref q_firstOfJoy, .ref q_nextOfJoy, .ref q_firstOfGain, .ref q_nextOfGain])), (q_topJoy, .inl (C 0, 2378, .inl t_topJoy))]) hD hS hA [0, 1] rfl
  refine va_calli (va_runV (As := [.int p1]) (rest := []) ⟨hx, hb, hml, hown, hts⟩ (met_X3_firstLayerBelow l D C q q_layer q_size q_topJoy q_firstOfJoy q_nextOfJoy q_firstOfGain q_nextOfGain p1 t_count t_topJoy H.size _ hwp) (cwV 1 hts gc_X3_77 rfl rfl rfl (by decide +kernel) ⟨Nat.le_of_ble_eq_true rfl, Nat.le_of_ble_eq_true rfl⟩) ⟨fun a U g mk q => by obtain ⟨q0, q1, qP, qK, qD⟩ := q; exact ⟨q0, q1, qP, va_K.moved (u := U) (U := U.calling g mk a) (Vm.Alike.refl U.vm) qK, qD⟩, va_recv hK hPc (ci := 3) (q0 := 0) rfl rfl, fun U hU hW => ⟨rfl, by rw [hU], by rw [hU]; exact hPc, va_K.moved hW.alike hK, hDc.weaken (fun _ _ _ _ => trivial)⟩⟩ rfl rfl hl.1 rfl (lv_room (Nat.le_of_ble_eq_true rfl)) dX3_placePair_2 ⟨Nat.zero_le _, Nat.zero_le _⟩) hS (fun q _ h => hFc q h) hFc (fun r2 u t H1 locs ht hvm hwp hB hz1 hk1 hS => ?_)
  obtain ⟨hP1, -, hD1⟩ := hB
  rw [ht] at hP1
  obtain ⟨hP, hD⟩ := va_join (wr := [(q_size, .inl (C 0, 2378, .inl t_size))]) (w1 := [(q, .inr (3, [.ref q_layer, .ref q_size, .int t_count, .ref q_topJoy, .ref q_firstOfJoy, .ref q_nextOfJoy, .ref q_firstOfGain, .ref q_nextOfGain])), (q_topJoy, .inl (C 0, 2378, .inl t_topJoy))]) hP hD [0, 1] [2] rfl rfl (by decide) (by decide) hk1 hFc hP1 hD1
  generalize H1 = H at hP hS ⊢
  have hP : va_P D vwCl [(q_size, .inl (C 0, 2378, .inl t_size)), (q, .inr (3, [.ref q_layer, .ref q_size, .int t_count, .ref q_topJoy, .ref q_firstOfJoy, .ref q_nextOfJoy, .ref q_firstOfGain, .ref q_nextOfGain])), (q_topJoy, .inl (C 0, 2378, .inl t_topJoy))] H := hP
  have hD : va_D A [(q_size, .inl (C 0, 2378, .inl t_size)), (q, .inr (3, [.ref q_layer, .ref q_size, .int t_count, .ref q_topJoy, .ref q_firstOfJoy, .ref q_nextOfJoy, .ref q_firstOfGain, .ref q_nextOfGain])), (q_topJoy, .inl (C 0, 2378, .inl t_topJoy))] := hD
  refine lv_istore_n (lv' := [(2, .int r2), (0, .ref q), (1, .int p1)]) hx hb dX3_placePair_5 rfl hl (by decide) rfl (fun ls hl => ?_)
  refine lv_iload_n hx hb dX3_placePair_6 rfl (lv_at hl 0 rfl) ?_
  refine lv_sipush (v := 2378) hx hb dX3_placePair_7 (by decide) ?_
  refine lv_icmp_lt (tgt := 15) hx hb dX3_placePair_10 (by decide) (fun c10 => ?_) (fun c10 => ?_)
  · have hwp := hwp.1 c10
    refine lv_iload_n hx hb dX3_placePair_15 rfl (lv_at hl 0 rfl) ?_
    refine lv_aload_n hx hb dX3_placePair_16 rfl (lv_at hl 1 rfl) ?_
    refine va_get (D := D) (ci := 3) (v := .int t_count) (C := RX3) (T := TX3) (N := 8) hx hb hts iwX3 hown hK hP 1 rfl rfl 2 (by decide) (hts (.fieldLink RX3 33 "ParetoDesk$Layers" "count" "I") wd_354) (fun _ h9 => h9) rfl dX3_placePair_17 ?_
    refine lv_icmp_ne (tgt := 40) hx hb dX3_placePair_20 (by decide) (fun c20 => ?_) (fun c20 => ?_)
    · have hwp := hwp.1 c20
      have hl9 := lv_sub (l' := [(0, .ref q), (1, .int p1), (2, .int r2)]) hl [1, 2, 0] rfl
      have hP9 := hP.sub (ws' := [(q, .inr (3, [.ref q_layer, .ref q_size, .int t_count, .ref q_topJoy, .ref q_firstOfJoy, .ref q_nextOfJoy, .ref q_firstOfGain, .ref q_nextOfGain])), (q_topJoy, .inl (C 0, 2378, .inl t_topJoy)), (q_size, .inl (C 0, 2378, .inl t_size))]) [1, 2, 0] rfl
      have hD9 := hD.sub (ws' := [(q, .inr (3, [.ref q_layer, .ref q_size, .int t_count, .ref q_topJoy, .ref q_firstOfJoy, .ref q_nextOfJoy, .ref q_firstOfGain, .ref q_nextOfGain])), (q_topJoy, .inl (C 0, 2378, .inl t_topJoy)), (q_size, .inl (C 0, 2378, .inl t_size))]) [1, 2, 0] (by decide) rfl
      exact HB40 p1 r2 t_count t_topJoy t_size H locs ls hl9 hP9 hD9 hS hwp
    · have hwp := hwp.2 c20
      refine lv_aload_n hx hb dX3_placePair_23 rfl (lv_at hl 1 rfl) ?_
      refine va_get (D := D) (ci := 3) (v := .ref q_size) (C := RX3) (T := TX3) (N := 8) hx hb hts iwX3 hown hK hP 1 rfl rfl 1 (by decide) (hts (.fieldLink RX3 15 "ParetoDesk$Layers" "size" "[I") wd_352) (fun _ h9 => h9) rfl dX3_placePair_24 ?_
      refine lv_iload_n hx hb dX3_placePair_27 rfl (lv_at hl 0 rfl) ?_
      refine lv_iconst (v := 0) hx hb dX3_placePair_28 (by decide) ?_
      obtain ⟨hi29, hwp⟩ := hwp
      refine va_iast (D := D) hx hb hK hP hD hS 0 0 rfl rfl hi29 dX3_placePair_29 (fun H locs hP hD hS => ?_)
      have hP : va_P D vwCl [(q_size, .inl (C 0, 2378, .inl (upd t_size r2.toNatClampNeg (0 : Int32)))), (q, .inr (3, [.ref q_layer, .ref q_size, .int t_count, .ref q_topJoy, .ref q_firstOfJoy, .ref q_nextOfJoy, .ref q_firstOfGain, .ref q_nextOfGain])), (q_topJoy, .inl (C 0, 2378, .inl t_topJoy))] H := hP
      have hD : va_D A [(q_size, .inl (C 0, 2378, .inl (upd t_size r2.toNatClampNeg (0 : Int32)))), (q, .inr (3, [.ref q_layer, .ref q_size, .int t_count, .ref q_topJoy, .ref q_firstOfJoy, .ref q_nextOfJoy, .ref q_firstOfGain, .ref q_nextOfGain])), (q_topJoy, .inl (C 0, 2378, .inl t_topJoy))] := hD
      refine lv_aload_n hx hb dX3_placePair_30 rfl (lv_at hl 1 rfl) ?_
      refine lv_dup hx hb dX3_placePair_31 rfl ?_
      refine va_get (D := D) (ci := 3) (v := .int t_count) (C := RX3) (T := TX3) (N := 8) hx hb hts iwX3 hown hK hP 1 rfl rfl 2 (by decide) (hts (.fieldLink RX3 33 "ParetoDesk$Layers" "count" "I") wd_354) (fun _ h9 => h9) rfl dX3_placePair_32 ?_
      refine lv_iconst (v := 1) hx hb dX3_placePair_35 (by decide) ?_
      refine lv_iadd hx hb dX3_placePair_36 ?_
      refine va_put (D := D) (ci := 3) (v := .int (t_count + (1 : Int32))) (ty := .int) (C := RX3) (T := TX3) (N := 8) hx hb hts iwX3 tyX3 tyX3_ok nmX3 hown hK hP hD hS 1 rfl rfl 2 (by decide) (hts (.fieldLink RX3 33 "ParetoDesk$Layers" "count" "I") wd_354) (fun _ h9 => h9) rfl (by decide +kernel) rfl rfl (Nat.le_of_ble_eq_true rfl) dX3_placePair_37 (fun H locs hP hD hS => ?_)
      have hP : va_P D vwCl [(q_size, .inl (C 0, 2378, .inl (upd t_size r2.toNatClampNeg (0 : Int32)))), (q, .inr (3, [.ref q_layer, .ref q_size, .int (t_count + (1 : Int32)), .ref q_topJoy, .ref q_firstOfJoy, .ref q_nextOfJoy, .ref q_firstOfGain, .ref q_nextOfGain])), (q_topJoy, .inl (C 0, 2378, .inl t_topJoy))] H := hP
      have hD : va_D A [(q_size, .inl (C 0, 2378, .inl (upd t_size r2.toNatClampNeg (0 : Int32)))), (q, .inr (3, [.ref q_layer, .ref q_size, .int (t_count + (1 : Int32)), .ref q_topJoy, .ref q_firstOfJoy, .ref q_nextOfJoy, .ref q_firstOfGain, .ref q_nextOfGain])), (q_topJoy, .inl (C 0, 2378, .inl t_topJoy))] := hD
      have hl9 := lv_sub (l' := [(0, .ref q), (1, .int p1), (2, .int r2)]) hl [1, 2, 0] rfl
      have hP9 := hP.sub (ws' := [(q, .inr (3, [.ref q_layer, .ref q_size, .int (t_count + (1 : Int32)), .ref q_topJoy, .ref q_firstOfJoy, .ref q_nextOfJoy, .ref q_firstOfGain, .ref q_nextOfGain])), (q_topJoy, .inl (C 0, 2378, .inl t_topJoy)), (q_size, .inl (C 0, 2378, .inl (upd t_size r2.toNatClampNeg (0 : Int32))))]) [1, 2, 0] rfl
      have hD9 := hD.sub (ws' := [(q, .inr (3, [.ref q_layer, .ref q_size, .int (t_count + (1 : Int32)), .ref q_topJoy, .ref q_firstOfJoy, .ref q_nextOfJoy, .ref q_firstOfGain, .ref q_nextOfGain])), (q_topJoy, .inl (C 0, 2378, .inl t_topJoy)), (q_size, .inl (C 0, 2378, .inl (upd t_size r2.toNatClampNeg (0 : Int32))))]) [1, 2, 0] (by decide) rfl
      exact HB40 p1 r2 (t_count + (1 : Int32)) t_topJoy (upd t_size r2.toNatClampNeg (0 : Int32)) H locs ls hl9 hP9 hD9 hS hwp
  · have hwp := hwp.2 c10
    refine lv_iconst (v := (-1)) hx hb dX3_placePair_13 (by decide) ?_
    have hP9 := hP.sub (ws' := [(q, .inr (3, [.ref q_layer, .ref q_size, .int t_count, .ref q_topJoy, .ref q_firstOfJoy, .ref q_nextOfJoy, .ref q_firstOfGain, .ref q_nextOfGain])), (q_topJoy, .inl (C 0, 2378, .inl t_topJoy)), (q_size, .inl (C 0, 2378, .inl t_size))]) [1, 2, 0] rfl
    have hD9 := hD.sub (ws' := [(q, .inr (3, [.ref q_layer, .ref q_size, .int t_count, .ref q_topJoy, .ref q_firstOfJoy, .ref q_nextOfJoy, .ref q_firstOfGain, .ref q_nextOfGain])), (q_topJoy, .inl (C 0, 2378, .inl t_topJoy)), (q_size, .inl (C 0, 2378, .inl t_size))]) [1, 2, 0] (by decide) rfl
    exact W.iret (v := (-1 : Int32)) hx hb hr (fun t ht hW => ⟨⟨(-1 : Int32), (t_count, t_topJoy, t_size), rfl, hwp, by rw [ht]; exact hP9, va_K.moved hW.alike hK, hD9⟩, hS.F ht⟩) hS.2.2 dX3_placePair_14
abbrev ws_X3_placeGain : List Cond := .code yX3_placeGain cX3_placeGain 7 none :: WALL
theorem gc_X3_73 : GoodIn WALL (wsV RX3 73 RX3 yX3_placePair ws_X3_placePair) := gc_v wd_1175 wd_1177 wd_32 wd_44 wd_1178
abbrev rm_X3_placeGain : Room := { frames := 2, cells := 0, slots := 0, locals := 47 }
abbrev w_X3_placeGain (C : Nat → ClassId) (q : Nat) (q_layer : Nat) (q_size : Nat) (q_topJoy : Nat) (q_firstOfJoy : Nat) (q_nextOfJoy : Nat) (q_firstOfGain : Nat) (q_nextOfGain : Nat) (q1 : Nat) (q1_weight : Nat) (q1_gain : Nat) (q1_joy : Nat) (q1_barred : Nat) (q1_needed : Nat) (t_count : Int32) (t_firstOfGain : Nat → Int32) (t1_sets : Int32) (t1_limit : Int32) (t1_mustSet : Int32) (t1_neverSet : Int32) (t1_joy : Nat → Int32) (t_topJoy : Nat → Int32) (t_size : Nat → Int32) (t_layer : Nat → Int32) (t_nextOfGain : Nat → Int32) : va_W := [(q, .inr (3, [.ref q_layer, .ref q_size, .int t_count, .ref q_topJoy, .ref q_firstOfJoy, .ref q_nextOfJoy, .ref q_firstOfGain, .ref q_nextOfGain])), (q_firstOfGain, .inl (C 0, 1189, .inl t_firstOfGain)), (q1, .inr (0, [.ref q1_weight, .ref q1_gain, .ref q1_joy, .ref q1_barred, .ref q1_needed, .int t1_sets, .int t1_limit, .int t1_mustSet, .int t1_neverSet])), (q1_joy, .inl (C 0, 4096, .inl t1_joy)), (q_topJoy, .inl (C 0, 2378, .inl t_topJoy)), (q_size, .inl (C 0, 2378, .inl t_size)), (q_layer, .inl (C 0, 4096, .inl t_layer)), (q_nextOfGain, .inl (C 0, 4096, .inl t_nextOfGain))]
abbrev q_X3_placeGain (D : va_G) (C : Nat → ClassId) (q : Nat) (q_layer : Nat) (q_size : Nat) (q_topJoy : Nat) (q_firstOfJoy : Nat) (q_nextOfJoy : Nat) (q_firstOfGain : Nat) (q_nextOfGain : Nat) (q1 : Nat) (q1_weight : Nat) (q1_gain : Nat) (q1_joy : Nat) (q1_barred : Nat) (q1_needed : Nat) (t_firstOfGain : Nat → Int32) (t1_sets : Int32) (t1_limit : Int32) (t1_mustSet : Int32) (t1_neverSet : Int32) (t1_joy : Nat → Int32) (t_nextOfGain : Nat → Int32) (Q : Int32 → (Nat → Int32) → (Nat → Int32) → (Nat → Int32) → Prop) (A : Nat → Prop) : Array Value → State → Outcome → State → Prop := va_Qv (fun (u : Int32 × (Nat → Int32) × (Nat → Int32) × (Nat → Int32)) => Q u.1 u.2.1 u.2.2.1 u.2.2.2) (fun (u : Int32 × (Nat → Int32) × (Nat → Int32) × (Nat → Int32)) (t : State) => va_P D vwCl (w_X3_placeGain C q q_layer q_size q_topJoy q_firstOfJoy q_nextOfJoy q_firstOfGain q_nextOfGain q1 q1_weight q1_gain q1_joy q1_barred q1_needed u.1 t_firstOfGain t1_sets t1_limit t1_mustSet t1_neverSet t1_joy u.2.1 u.2.2.1 u.2.2.2 t_nextOfGain) t.heap ∧ va_K D vwCl (tyL C) t ∧ va_D A (w_X3_placeGain C q q_layer q_size q_topJoy q_firstOfJoy q_nextOfJoy q_firstOfGain q_nextOfGain q1 q1_weight q1_gain q1_joy q1_barred q1_needed u.1 t_firstOfGain t1_sets t1_limit t1_mustSet t1_neverSet t1_joy u.2.1 u.2.2.1 u.2.2.2 t_nextOfGain)) A
set_option maxHeartbeats 4000000 in
set_option maxRecDepth 100000 in
theorem met_X3_placeGain (l : Launch) (D : va_G) (C : Nat → ClassId) (q : Nat) (q_layer : Nat) (q_size : Nat) (q_topJoy : Nat) (q_firstOfJoy : Nat) (q_nextOfJoy : Nat) (q_firstOfGain : Nat) (q_nextOfGain : Nat) (q1 : Nat) (q1_weight : Nat) (q1_gain : Nat) (q1_joy : Nat) (q1_barred : Nat) (q1_needed : Nat) (p2 : Int32) (t_count : Int32) (t_firstOfGain : Nat → Int32) (t1_sets : Int32) (t1_limit : Int32) (t1_mustSet : Int32) (t1_neverSet : Int32) (t1_joy : Nat → Int32) (t_topJoy : Nat → Int32) (t_size : Nat → Int32) (t_layer : Nat → Int32) (t_nextOfGain : Nat → Int32) (sz : Nat) (Q : Int32 → (Nat → Int32) → (Nat → Int32) → (Nat → Int32) → Prop) (hwp : wp_X3_placeGain p2 t_count t_firstOfGain t1_joy t_topJoy t_size t_layer t_nextOfGain Q) : Met l yX3_placeGain ws_X3_placeGain rm_X3_placeGain (va_Pc [.ref q, .ref q1, .int p2] (fun U => U.heap.size = sz ∧ va_P D vwCl (w_X3_placeGain C q q_layer q_size q_topJoy q_firstOfJoy q_nextOfJoy q_firstOfGain q_nextOfGain q1 q1_weight q1_gain q1_joy q1_barred q1_needed t_count t_firstOfGain t1_sets t1_limit t1_mustSet t1_neverSet t1_joy t_topJoy t_size t_layer t_nextOfGain) U.heap ∧ va_K D vwCl (tyL C) U ∧ va_D (fun _ => True) (w_X3_placeGain C q q_layer q_size q_topJoy q_firstOfJoy q_nextOfJoy q_firstOfGain q_nextOfGain q1 q1_weight q1_gain q1_joy q1_barred q1_needed t_count t_firstOfGain t1_sets t1_limit t1_mustSet t1_neverSet t1_joy t_topJoy t_size t_layer t_nextOfGain))) (q_X3_placeGain D C q q_layer q_size q_topJoy q_firstOfJoy q_nextOfJoy q_firstOfGain q_nextOfGain q1 q1_weight q1_gain q1_joy q1_barred q1_needed t_firstOfGain t1_sets t1_limit t1_mustSet t1_neverSet t1_joy t_nextOfGain Q (va_A (w_X3_placeGain C q q_layer q_size q_topJoy q_firstOfJoy q_nextOfJoy q_firstOfGain q_nextOfGain q1 q1_weight q1_gain q1_joy q1_barred q1_needed t_count t_firstOfGain t1_sets t1_limit t1_mustSet t1_neverSet t1_joy t_topJoy t_size t_layer t_nextOfGain) sz)) 0 0 (va_A (w_X3_placeGain C q q_layer q_size q_topJoy q_firstOfJoy q_nextOfJoy q_firstOfGain q_nextOfGain q1 q1_weight q1_gain q1_joy q1_barred q1_needed t_count t_firstOfGain t1_sets t1_limit t1_mustSet t1_neverSet t1_joy t_topJoy t_size t_layer t_nextOfGain) sz) := by
  refine Met.ofW (cc := cX3_placeGain) (maxL := 7) (ret := none) (by decide) rfl ?_
  intro p e s m args below meth c s₁ B hml hv
  obtain ⟨rfl, hsz, hP, hK, hD0⟩ := hv
  have hx := B.exec
  have hb := B.bytes
  have hr := B.returns
  have hts : ∀ w ∈ WALL, w.before _ s = true := fun w h => atoms_spec (ws := ws_X3_placeGain) B.pre w (List.mem_cons_of_mem _ h)
  have hown : s.vm.findClass RX3 = some m.cls := findClass_of_methodNamed B.named
  have hlocks := B.notSynchronized
  subst hsz
  have hD := hD0.self (sz := s.heap.size)
  generalize hAe : va_A (w_X3_placeGain C q q_layer q_size q_topJoy q_firstOfJoy q_nextOfJoy q_firstOfGain q_nextOfGain q1 q1_weight q1_gain q1_joy q1_barred q1_needed t_count t_firstOfGain t1_sets t1_limit t1_mustSet t1_neverSet t1_joy t_topJoy t_size t_layer t_nextOfGain) s.heap.size = A at hD ⊢
  have hA : ∀ q : Nat, s.heap.size ≤ q → A q := fun q h => by rw [← hAe]; exact Or.inr h
  have hS : va_S A s.heap s.heap [] := va_S.rf
  have hl := lv_entry ([.ref q, .ref q1, .int p2]) (n := 7) (Nat.le_of_ble_eq_true rfl)
  rw [lg_entry_eq]
  generalize (lg_sl ([.ref q, .ref q1, .int p2]) ++ List.replicate (7 - (lg_sl ([.ref q, .ref q1, .int p2])).length) Slot.unset).toArray = ls at hl ⊢
  have hl : lv_has ls 7 [(0, .ref q), (1, .ref q1), (2, .int p2)] := hl
  have HB56 : ∀  (k16 : Int32 → Int32 → Int32 → Int32 → Int32 → (Nat → Int32) → (Nat → Int32) → (Nat → Int32) → Prop) (hk16 : ∀ (x3 : Int32) (x4 : Int32) (x5 : Int32) (x6 : Int32) (t_count : Int32) (t_topJoy : Nat → Int32) (t_size : Nat → Int32) (t_layer : Nat → Int32) (H : Heap) (locs : List Loc) (ls : Array Slot), lv_has ls 7 [(0, .ref q), (1, .ref q1), (3, .int x3), (4, .int x4), (5, .int x5), (6, .int x6)] → va_P D vwCl [(q, .inr (3, [.ref q_layer, .ref q_size, .int t_count, .ref q_topJoy, .ref q_firstOfJoy, .ref q_nextOfJoy, .ref q_firstOfGain, .ref q_nextOfGain])), (q_firstOfGain, .inl (C 0, 1189, .inl t_firstOfGain)), (q1, .inr (0, [.ref q1_weight, .ref q1_gain, .ref q1_joy, .ref q1_barred, .ref q1_needed, .int t1_sets, .int t1_limit, .int t1_mustSet, .int t1_neverSet])), (q1_joy, .inl (C 0, 4096, .inl t1_joy)), (q_topJoy, .inl (C 0, 2378, .inl t_topJoy)), (q_size, .inl (C 0, 2378, .inl t_size)), (q_layer, .inl (C 0, 4096, .inl t_layer)), (q_nextOfGain, .inl (C 0, 4096, .inl t_nextOfGain))] H → va_D A [(q, .inr (3, [.ref q_layer, .ref q_size, .int t_count, .ref q_topJoy, .ref q_firstOfJoy, .ref q_nextOfJoy, .ref q_firstOfGain, .ref q_nextOfGain])), (q_firstOfGain, .inl (C 0, 1189, .inl t_firstOfGain)), (q1, .inr (0, [.ref q1_weight, .ref q1_gain, .ref q1_joy, .ref q1_barred, .ref q1_needed, .int t1_sets, .int t1_limit, .int t1_mustSet, .int t1_neverSet])), (q1_joy, .inl (C 0, 4096, .inl t1_joy)), (q_topJoy, .inl (C 0, 2378, .inl t_topJoy)), (q_size, .inl (C 0, 2378, .inl t_size)), (q_layer, .inl (C 0, 4096, .inl t_layer)), (q_nextOfGain, .inl (C 0, 4096, .inl t_nextOfGain))] → va_S A s.heap H locs → k16 x3 x4 x5 x6 t_count t_topJoy t_size t_layer → W p l e (headSpec ws_X3_placeGain rm_X3_placeGain).room s m ([.ref q, .ref q1, .int p2] : List Value).toArray below meth c H locs 0 0 (MQ below (q_X3_placeGain D C q q_layer q_size q_topJoy q_firstOfJoy q_nextOfJoy q_firstOfGain q_nextOfGain q1 q1_weight q1_gain q1_joy q1_barred q1_needed t_firstOfGain t1_sets t1_limit t1_mustSet t1_neverSet t1_joy t_nextOfGain Q A) ([.ref q, .ref q1, .int p2] : List Value).toArray s 0 0 A) (F0 m 16 ls [])) (x3 : Int32) (x4 : Int32) (x5 : Int32) (x6 : Int32) (t_count : Int32) (t_topJoy : Nat → Int32) (t_size : Nat → Int32) (t_layer : Nat → Int32) (H : Heap) (locs : List Loc) (ls : Array Slot), lv_has ls 7 [(0, .ref q), (1, .ref q1), (3, .int x3), (4, .int x4), (5, .int x5), (6, .int x6)] → va_P D vwCl [(q, .inr (3, [.ref q_layer, .ref q_size, .int t_count, .ref q_topJoy, .ref q_firstOfJoy, .ref q_nextOfJoy, .ref q_firstOfGain, .ref q_nextOfGain])), (q_firstOfGain, .inl (C 0, 1189, .inl t_firstOfGain)), (q1, .inr (0, [.ref q1_weight, .ref q1_gain, .ref q1_joy, .ref q1_barred, .ref q1_needed, .int t1_sets, .int t1_limit, .int t1_mustSet, .int t1_neverSet])), (q1_joy, .inl (C 0, 4096, .inl t1_joy)), (q_topJoy, .inl (C 0, 2378, .inl t_topJoy)), (q_size, .inl (C 0, 2378, .inl t_size)), (q_layer, .inl (C 0, 4096, .inl t_layer)), (q_nextOfGain, .inl (C 0, 4096, .inl t_nextOfGain))] H → va_D A [(q, .inr (3, [.ref q_layer, .ref q_size, .int t_count, .ref q_topJoy, .ref q_firstOfJoy, .ref q_nextOfJoy, .ref q_firstOfGain, .ref q_nextOfGain])), (q_firstOfGain, .inl (C 0, 1189, .inl t_firstOfGain)), (q1, .inr (0, [.ref q1_weight, .ref q1_gain, .ref q1_joy, .ref q1_barred, .ref q1_needed, .int t1_sets, .int t1_limit, .int t1_mustSet, .int t1_neverSet])), (q1_joy, .inl (C 0, 4096, .inl t1_joy)), (q_topJoy, .inl (C 0, 2378, .inl t_topJoy)), (q_size, .inl (C 0, 2378, .inl t_size)), (q_layer, .inl (C 0, 4096, .inl t_layer)), (q_nextOfGain, .inl (C 0, 4096, .inl t_nextOfGain))] → va_S A s.heap H locs → wp_X3_placeGain_b56 t_firstOfGain t1_joy t_nextOfGain k16 Q x3 x4 x5 x6 t_count t_topJoy t_size t_layer → W p l e (headSpec ws_X3_placeGain rm_X3_placeGain).room s m ([.ref q, .ref q1, .int p2] : List Value).toArray below meth c H locs 0 0 (MQ below (q_X3_placeGain D C q q_layer q_size q_topJoy q_firstOfJoy q_nextOfJoy q_firstOfGain q_nextOfGain q1 q1_weight q1_gain q1_joy q1_barred q1_needed t_firstOfGain t1_sets t1_limit t1_mustSet t1_neverSet t1_joy t_nextOfGain Q A) ([.ref q, .ref q1, .int p2] : List Value).toArray s 0 0 A) (F0 m 56 ls []) := by
    intro k16 hk16 x3 x4 x5 x6 t_count t_topJoy t_size t_layer H locs ls hl hP hD hS hwp
    unfold wp_X3_placeGain_b56 at hwp
    refine lv_aload_n hx hb dX3_placeGain_56 rfl (lv_at hl 0 rfl) ?_
    refine va_get (D := D) (ci := 3) (v := .ref q_layer) (C := RX3) (T := TX3) (N := 8) hx hb hts iwX3 hown hK hP 0 rfl rfl 0 (by decide) (hts (.fieldLink RX3 9 "ParetoDesk$Layers" "layer" "[I") wd_350) (fun _ h9 => h9) rfl dX3_placeGain_57 ?_
    refine lv_iload_n hx hb dX3_placeGain_60 rfl (lv_at hl 2 rfl) ?_
    refine lv_iload hx hb dX3_placeGain_61 (lv_at hl 4 rfl) ?_
    obtain ⟨hi63, hwp⟩ := hwp
    refine va_iast (D := D) hx hb hK hP hD hS 6 0 rfl rfl hi63 dX3_placeGain_63 (fun H locs hP hD hS => ?_)
    have hP : va_P D vwCl [(q, .inr (3, [.ref q_layer, .ref q_size, .int t_count, .ref q_topJoy, .ref q_firstOfJoy, .ref q_nextOfJoy, .ref q_firstOfGain, .ref q_nextOfGain])), (q_firstOfGain, .inl (C 0, 1189, .inl t_firstOfGain)), (q1, .inr (0, [.ref q1_weight, .ref q1_gain, .ref q1_joy, .ref q1_barred, .ref q1_needed, .int t1_sets, .int t1_limit, .int t1_mustSet, .int t1_neverSet])), (q1_joy, .inl (C 0, 4096, .inl t1_joy)), (q_topJoy, .inl (C 0, 2378, .inl t_topJoy)), (q_size, .inl (C 0, 2378, .inl t_size)), (q_layer, .inl (C 0, 4096, .inl (upd t_layer x3.toNatClampNeg x5))), (q_nextOfGain, .inl (C 0, 4096, .inl t_nextOfGain))] H := hP
    have hD : va_D A [(q, .inr (3, [.ref q_layer, .ref q_size, .int t_count, .ref q_topJoy, .ref q_firstOfJoy, .ref q_nextOfJoy, .ref q_firstOfGain, .ref q_nextOfGain])), (q_firstOfGain, .inl (C 0, 1189, .inl t_firstOfGain)), (q1, .inr (0, [.ref q1_weight, .ref q1_gain, .ref q1_joy, .ref q1_barred, .ref q1_needed, .int t1_sets, .int t1_limit, .int t1_mustSet, .int t1_neverSet])), (q1_joy, .inl (C 0, 4096, .inl t1_joy)), (q_topJoy, .inl (C 0, 2378, .inl t_topJoy)), (q_size, .inl (C 0, 2378, .inl t_size)), (q_layer, .inl (C 0, 4096, .inl (upd t_layer x3.toNatClampNeg x5))), (q_nextOfGain, .inl (C 0, 4096, .inl t_nextOfGain))] := hD
    refine lv_aload_n hx hb dX3_placeGain_64 rfl (lv_at hl 0 rfl) ?_
    refine va_get (D := D) (ci := 3) (v := .ref q_nextOfGain) (C := RX3) (T := TX3) (N := 8) hx hb hts iwX3 hown hK hP 0 rfl rfl 7 (by decide) (hts (.fieldLink RX3 30 "ParetoDesk$Layers" "nextOfGain" "[I") wd_360) (fun _ h9 => h9) rfl dX3_placeGain_65 ?_
    refine lv_iload_n hx hb dX3_placeGain_68 rfl (lv_at hl 2 rfl) ?_
    obtain ⟨hi69, hwp⟩ := hwp
    refine va_iald (D := D) hx hb hK hP 7 0 rfl rfl hi69 dX3_placeGain_69 ?_
    refine lv_topi (fun v70 ev70 => ?_)
    have hwp := hwp v70 ev70
    refine lv_istore_n (lv' := [(3, .int v70), (0, .ref q), (1, .ref q1), (4, .int x4), (5, .int x5), (6, .int x6)]) hx hb dX3_placeGain_70 rfl hl (by decide) rfl (fun ls hl => ?_)
    refine lv_iinc (v := x6 + 1) (lv' := [(6, .int (x6 + 1)), (3, .int v70), (0, .ref q), (1, .ref q1), (4, .int x4), (5, .int x5)]) hx hb dX3_placeGain_71 hl (k := 5) rfl rfl (by decide) rfl (fun ls hl => ?_)
    refine lv_goto (tgt := 16) hx hb dX3_placeGain_74 (by decide) ?_
    have hl9 := lv_sub (l' := [(0, .ref q), (1, .ref q1), (3, .int v70), (4, .int x4), (5, .int x5), (6, .int (x6 + 1))]) hl [2, 3, 1, 4, 5, 0] rfl
    have hP9 := hP.sub (ws' := [(q, .inr (3, [.ref q_layer, .ref q_size, .int t_count, .ref q_topJoy, .ref q_firstOfJoy, .ref q_nextOfJoy, .ref q_firstOfGain, .ref q_nextOfGain])), (q_firstOfGain, .inl (C 0, 1189, .inl t_firstOfGain)), (q1, .inr (0, [.ref q1_weight, .ref q1_gain, .ref q1_joy, .ref q1_barred, .ref q1_needed, .int t1_sets, .int t1_limit, .int t1_mustSet, .int t1_neverSet])), (q1_joy, .inl (C 0, 4096, .inl t1_joy)), (q_topJoy, .inl (C 0, 2378, .inl t_topJoy)), (q_size, .inl (C 0, 2378, .inl t_size)), (q_layer, .inl (C 0, 4096, .inl (upd t_layer x3.toNatClampNeg x5))), (q_nextOfGain, .inl (C 0, 4096, .inl t_nextOfGain))]) [0, 1, 2, 3, 4, 5, 6, 7] rfl
    have hD9 := hD.sub (ws' := [(q, .inr (3, [.ref q_layer, .ref q_size, .int t_count, .ref q_topJoy, .ref q_firstOfJoy, .ref q_nextOfJoy, .ref q_firstOfGain, .ref q_nextOfGain])), (q_firstOfGain, .inl (C 0, 1189, .inl t_firstOfGain)), (q1, .inr (0, [.ref q1_weight, .ref q1_gain, .ref q1_joy, .ref q1_barred, .ref q1_needed, .int t1_sets, .int t1_limit, .int t1_mustSet, .int t1_neverSet])), (q1_joy, .inl (C 0, 4096, .inl t1_joy)), (q_topJoy, .inl (C 0, 2378, .inl t_topJoy)), (q_size, .inl (C 0, 2378, .inl t_size)), (q_layer, .inl (C 0, 4096, .inl (upd t_layer x3.toNatClampNeg x5))), (q_nextOfGain, .inl (C 0, 4096, .inl t_nextOfGain))]) [0, 1, 2, 3, 4, 5, 6, 7] (by decide) rfl
    exact hk16 v70 x4 x5 (x6 + 1) t_count t_topJoy t_size (upd t_layer x3.toNatClampNeg x5) H locs ls hl9 hP9 hD9 hS hwp
  have HL16 : ∀  (n16 : Nat) (x3 : Int32) (x4 : Int32) (x5 : Int32) (x6 : Int32) (t_count : Int32) (t_topJoy : Nat → Int32) (t_size : Nat → Int32) (t_layer : Nat → Int32) (H : Heap) (locs : List Loc) (ls : Array Slot), lv_has ls 7 [(0, .ref q), (1, .ref q1), (3, .int x3), (4, .int x4), (5, .int x5), (6, .int x6)] → va_P D vwCl [(q, .inr (3, [.ref q_layer, .ref q_size, .int t_count, .ref q_topJoy, .ref q_firstOfJoy, .ref q_nextOfJoy, .ref q_firstOfGain, .ref q_nextOfGain])), (q_firstOfGain, .inl (C 0, 1189, .inl t_firstOfGain)), (q1, .inr (0, [.ref q1_weight, .ref q1_gain, .ref q1_joy, .ref q1_barred, .ref q1_needed, .int t1_sets, .int t1_limit, .int t1_mustSet, .int t1_neverSet])), (q1_joy, .inl (C 0, 4096, .inl t1_joy)), (q_topJoy, .inl (C 0, 2378, .inl t_topJoy)), (q_size, .inl (C 0, 2378, .inl t_size)), (q_layer, .inl (C 0, 4096, .inl t_layer)), (q_nextOfGain, .inl (C 0, 4096, .inl t_nextOfGain))] H → va_D A [(q, .inr (3, [.ref q_layer, .ref q_size, .int t_count, .ref q_topJoy, .ref q_firstOfJoy, .ref q_nextOfJoy, .ref q_firstOfGain, .ref q_nextOfGain])), (q_firstOfGain, .inl (C 0, 1189, .inl t_firstOfGain)), (q1, .inr (0, [.ref q1_weight, .ref q1_gain, .ref q1_joy, .ref q1_barred, .ref q1_needed, .int t1_sets, .int t1_limit, .int t1_mustSet, .int t1_neverSet])), (q1_joy, .inl (C 0, 4096, .inl t1_joy)), (q_topJoy, .inl (C 0, 2378, .inl t_topJoy)), (q_size, .inl (C 0, 2378, .inl t_size)), (q_layer, .inl (C 0, 4096, .inl t_layer)), (q_nextOfGain, .inl (C 0, 4096, .inl t_nextOfGain))] → va_S A s.heap H locs → wp_X3_placeGain_L16 t_firstOfGain t1_joy t_nextOfGain Q n16 x3 x4 x5 x6 t_count t_topJoy t_size t_layer → W p l e (headSpec ws_X3_placeGain rm_X3_placeGain).room s m ([.ref q, .ref q1, .int p2] : List Value).toArray below meth c H locs 0 0 (MQ below (q_X3_placeGain D C q q_layer q_size q_topJoy q_firstOfJoy q_nextOfJoy q_firstOfGain q_nextOfGain q1 q1_weight q1_gain q1_joy q1_barred q1_needed t_firstOfGain t1_sets t1_limit t1_mustSet t1_neverSet t1_joy t_nextOfGain Q A) ([.ref q, .ref q1, .int p2] : List Value).toArray s 0 0 A) (F0 m 16 ls []) := by
    intro  n16
    induction n16 with
    | zero =>
      intro x3 x4 x5 x6 t_count t_topJoy t_size t_layer H locs ls hl hP hD hS hwp
      exact False.elim hwp
    | succ n16 ih =>
      intro x3 x4 x5 x6 t_count t_topJoy t_size t_layer H locs ls hl hP hD hS hwp
      unfold wp_X3_placeGain_L16 at hwp
      refine lv_iload hx hb dX3_placeGain_16 (lv_at hl 5 rfl) ?_
      refine lv_sipush (v := 4096) hx hb dX3_placeGain_18 (by decide) ?_
      refine lv_icmp_ge (tgt := 77) hx hb dX3_placeGain_21 (by decide) (fun c21 => ?_) (fun c21 => ?_)
      · have hwp := hwp.1 c21
        have hP9 := hP.sub (ws' := [(q, .inr (3, [.ref q_layer, .ref q_size, .int t_count, .ref q_topJoy, .ref q_firstOfJoy, .ref q_nextOfJoy, .ref q_firstOfGain, .ref q_nextOfGain])), (q_firstOfGain, .inl (C 0, 1189, .inl t_firstOfGain)), (q1, .inr (0, [.ref q1_weight, .ref q1_gain, .ref q1_joy, .ref q1_barred, .ref q1_needed, .int t1_sets, .int t1_limit, .int t1_mustSet, .int t1_neverSet])), (q1_joy, .inl (C 0, 4096, .inl t1_joy)), (q_topJoy, .inl (C 0, 2378, .inl t_topJoy)), (q_size, .inl (C 0, 2378, .inl t_size)), (q_layer, .inl (C 0, 4096, .inl t_layer)), (q_nextOfGain, .inl (C 0, 4096, .inl t_nextOfGain))]) [0, 1, 2, 3, 4, 5, 6, 7] rfl
        have hD9 := hD.sub (ws' := [(q, .inr (3, [.ref q_layer, .ref q_size, .int t_count, .ref q_topJoy, .ref q_firstOfJoy, .ref q_nextOfJoy, .ref q_firstOfGain, .ref q_nextOfGain])), (q_firstOfGain, .inl (C 0, 1189, .inl t_firstOfGain)), (q1, .inr (0, [.ref q1_weight, .ref q1_gain, .ref q1_joy, .ref q1_barred, .ref q1_needed, .int t1_sets, .int t1_limit, .int t1_mustSet, .int t1_neverSet])), (q1_joy, .inl (C 0, 4096, .inl t1_joy)), (q_topJoy, .inl (C 0, 2378, .inl t_topJoy)), (q_size, .inl (C 0, 2378, .inl t_size)), (q_layer, .inl (C 0, 4096, .inl t_layer)), (q_nextOfGain, .inl (C 0, 4096, .inl t_nextOfGain))]) [0, 1, 2, 3, 4, 5, 6, 7] (by decide) rfl
        exact W.vret hx hb hr (fun t ht hW => ⟨⟨(t_count, t_topJoy, t_size, t_layer), rfl, hwp, by rw [ht]; exact hP9, va_K.moved hW.alike hK, hD9⟩, hS.F ht⟩) hS.2.2 dX3_placeGain_77
      · have hwp := hwp.2 c21
        refine lv_iload_n hx hb dX3_placeGain_24 rfl (lv_at hl 2 rfl) ?_
        refine lv_iconst (v := (-1)) hx hb dX3_placeGain_25 (by decide) ?_
        refine lv_icmp_eq (tgt := 77) hx hb dX3_placeGain_26 (by decide) (fun c26 => ?_) (fun c26 => ?_)
        · have hwp := hwp.1 c26
          have hP9 := hP.sub (ws' := [(q, .inr (3, [.ref q_layer, .ref q_size, .int t_count, .ref q_topJoy, .ref q_firstOfJoy, .ref q_nextOfJoy, .ref q_firstOfGain, .ref q_nextOfGain])), (q_firstOfGain, .inl (C 0, 1189, .inl t_firstOfGain)), (q1, .inr (0, [.ref q1_weight, .ref q1_gain, .ref q1_joy, .ref q1_barred, .ref q1_needed, .int t1_sets, .int t1_limit, .int t1_mustSet, .int t1_neverSet])), (q1_joy, .inl (C 0, 4096, .inl t1_joy)), (q_topJoy, .inl (C 0, 2378, .inl t_topJoy)), (q_size, .inl (C 0, 2378, .inl t_size)), (q_layer, .inl (C 0, 4096, .inl t_layer)), (q_nextOfGain, .inl (C 0, 4096, .inl t_nextOfGain))]) [0, 1, 2, 3, 4, 5, 6, 7] rfl
          have hD9 := hD.sub (ws' := [(q, .inr (3, [.ref q_layer, .ref q_size, .int t_count, .ref q_topJoy, .ref q_firstOfJoy, .ref q_nextOfJoy, .ref q_firstOfGain, .ref q_nextOfGain])), (q_firstOfGain, .inl (C 0, 1189, .inl t_firstOfGain)), (q1, .inr (0, [.ref q1_weight, .ref q1_gain, .ref q1_joy, .ref q1_barred, .ref q1_needed, .int t1_sets, .int t1_limit, .int t1_mustSet, .int t1_neverSet])), (q1_joy, .inl (C 0, 4096, .inl t1_joy)), (q_topJoy, .inl (C 0, 2378, .inl t_topJoy)), (q_size, .inl (C 0, 2378, .inl t_size)), (q_layer, .inl (C 0, 4096, .inl t_layer)), (q_nextOfGain, .inl (C 0, 4096, .inl t_nextOfGain))]) [0, 1, 2, 3, 4, 5, 6, 7] (by decide) rfl
          exact W.vret hx hb hr (fun t ht hW => ⟨⟨(t_count, t_topJoy, t_size, t_layer), rfl, hwp, by rw [ht]; exact hP9, va_K.moved hW.alike hK, hD9⟩, hS.F ht⟩) hS.2.2 dX3_placeGain_77
        · have hwp := hwp.2 c26
          refine lv_aload_n hx hb dX3_placeGain_29 rfl (lv_at hl 1 rfl) ?_
          refine va_get (D := D) (ci := 0) (v := .ref q1_joy) (C := RX0) (T := TX0) (N := 9) hx hb hts iwX0 hown hK hP 2 rfl rfl 2 (by decide) (hts (.fieldLink RX3 63 "ParetoDesk$Choices" "joy" "[I") wd_225) (fun _ h9 => h9) rfl dX3_placeGain_30 ?_
          refine lv_iload_n hx hb dX3_placeGain_33 rfl (lv_at hl 2 rfl) ?_
          obtain ⟨hi34, hwp⟩ := hwp
          refine va_iald (D := D) hx hb hK hP 3 0 rfl rfl hi34 dX3_placeGain_34 ?_
          refine lv_iload hx hb dX3_placeGain_35 (lv_at hl 3 rfl) ?_
          refine lv_icmp_eq (tgt := 56) hx hb dX3_placeGain_37 (by decide) (fun c37 => ?_) (fun c37 => ?_)
          · have hwp := hwp.1 c37
            have hl9 := lv_sub (l' := [(0, .ref q), (1, .ref q1), (3, .int x3), (4, .int x4), (5, .int x5), (6, .int x6)]) hl [0, 1, 2, 3, 4, 5] rfl
            have hP9 := hP.sub (ws' := [(q, .inr (3, [.ref q_layer, .ref q_size, .int t_count, .ref q_topJoy, .ref q_firstOfJoy, .ref q_nextOfJoy, .ref q_firstOfGain, .ref q_nextOfGain])), (q_firstOfGain, .inl (C 0, 1189, .inl t_firstOfGain)), (q1, .inr (0, [.ref q1_weight, .ref q1_gain, .ref q1_joy, .ref q1_barred, .ref q1_needed, .int t1_sets, .int t1_limit, .int t1_mustSet, .int t1_neverSet])), (q1_joy, .inl (C 0, 4096, .inl t1_joy)), (q_topJoy, .inl (C 0, 2378, .inl t_topJoy)), (q_size, .inl (C 0, 2378, .inl t_size)), (q_layer, .inl (C 0, 4096, .inl t_layer)), (q_nextOfGain, .inl (C 0, 4096, .inl t_nextOfGain))]) [0, 1, 2, 3, 4, 5, 6, 7] rfl
            have hD9 := hD.sub (ws' := [(q, .inr (3, [.ref q_layer, .ref q_size, .int t_count, .ref q_topJoy, .ref q_firstOfJoy, .ref q_nextOfJoy, .ref q_firstOfGain, .ref q_nextOfGain])), (q_firstOfGain, .inl (C 0, 1189, .inl t_firstOfGain)), (q1, .inr (0, [.ref q1_weight, .ref q1_gain, .ref q1_joy, .ref q1_barred, .ref q1_needed, .int t1_sets, .int t1_limit, .int t1_mustSet, .int t1_neverSet])), (q1_joy, .inl (C 0, 4096, .inl t1_joy)), (q_topJoy, .inl (C 0, 2378, .inl t_topJoy)), (q_size, .inl (C 0, 2378, .inl t_size)), (q_layer, .inl (C 0, 4096, .inl t_layer)), (q_nextOfGain, .inl (C 0, 4096, .inl t_nextOfGain))]) [0, 1, 2, 3, 4, 5, 6, 7] (by decide) rfl
            exact HB56 _ (fun z0 z1 z2 z3 z4 z5 z6 z7 H locs ls hl hP hD hS hwp => ih z0 z1 z2 z3 z4 z5 z6 z7 H locs ls hl hP hD hS hwp) x3 x4 x5 x6 t_count t_topJoy t_size t_layer H locs ls hl9 hP9 hD9 hS hwp
          · have hwp := hwp.2 c37
            refine lv_aload_n hx hb dX3_placeGain_40 rfl (lv_at hl 1 rfl) ?_
            refine va_get (D := D) (ci := 0) (v := .ref q1_joy) (C := RX0) (T := TX0) (N := 9) hx hb hts iwX0 hown hK hP 2 rfl rfl 2 (by decide) (hts (.fieldLink RX3 63 "ParetoDesk$Choices" "joy" "[I") wd_225) (fun _ h9 => h9) rfl dX3_placeGain_41 ?_
            refine lv_iload_n hx hb dX3_placeGain_44 rfl (lv_at hl 2 rfl) ?_
            obtain ⟨hi45, hwp⟩ := hwp
            refine va_iald (D := D) hx hb hK hP 3 0 rfl rfl hi45 dX3_placeGain_45 ?_
            refine lv_topi (fun v46 ev46 => ?_)
            have hwp := hwp v46 ev46
            refine lv_istore (lv' := [(4, .int v46), (0, .ref q), (1, .ref q1), (3, .int x3), (5, .int x5), (6, .int x6)]) hx hb dX3_placeGain_46 hl (by decide) rfl (fun ls hl => ?_)
            refine lv_aload_n hx hb dX3_placeGain_48 rfl (lv_at hl 1 rfl) ?_
            refine lv_iload hx hb dX3_placeGain_49 (lv_at hl 0 rfl) ?_
            have hPc := hP.sub (ws' := [(q, .inr (3, [.ref q_layer, .ref q_size, .int t_count, .ref q_topJoy, .ref q_firstOfJoy, .ref q_nextOfJoy, .ref q_firstOfGain, .ref q_nextOfGain])), (q_topJoy, .inl (C 0, 2378, .inl t_topJoy)), (q_size, .inl (C 0, 2378, .inl t_size))]) [0, 4, 5] rfl
            have hDc := hD.sub (ws' := [(q, .inr (3, [.ref q_layer, .ref q_size, .int t_count, .ref q_topJoy, .ref q_firstOfJoy, .ref q_nextOfJoy, .ref q_firstOfGain, .ref q_nextOfGain])), (q_topJoy, .inl (C 0, 2378, .inl t_topJoy)), (q_size, .inl (C 0, 2378, .inl t_size))]) [0, 4, 5] (by decide) rfl
            have hFc := va_free (wc := [(q, .inr (3, [.ref q_layer, .ref q_size, .int t_count, .ref q_topJoy, .ref q_firstOfJoy, .ref q_nextOfJoy, .ref q_firstOfGain, .ref q_nextOfGain])), (q_topJoy, .inl (C 0, 2378, .inl t_topJoy)), (q_size, .inl (C 0, 2378, .inl t_size))]) hD hS hA [0, 4, 5] rfl
            refine va_calli (va_runV (As := [.int v46]) (rest := []) ⟨hx, hb, hml, hown, hts⟩ (met_X3_placePair l D C q q_layer q_size q_topJoy q_firstOfJoy q_nextOfJoy q_firstOfGain q_nextOfGain v46 t_count t_topJoy t_size H.size _ hwp) (cwV 1 hts gc_X3_73 rfl rfl rfl (by decide +kernel) ⟨Nat.le_of_ble_eq_true rfl, Nat.le_of_ble_eq_true rfl⟩) ⟨fun a U g mk q => by obtain ⟨q0, q1, qP, qK, qD⟩ := q; exact ⟨q0, q1, qP, va_K.moved (u := U) (U := U.calling g mk a) (Vm.Alike.refl U.vm) qK, qD⟩, va_recv hK hPc (ci := 3) (q0 := 0) rfl rfl, fun U hU hW => ⟨rfl, by rw [hU], by rw [hU]; exact hPc, va_K.moved hW.alike hK, hDc.weaken (fun _ _ _ _ => trivial)⟩⟩ rfl rfl hl.1 rfl (lv_room (Nat.le_of_ble_eq_true rfl)) dX3_placeGain_51 ⟨Nat.zero_le _, Nat.zero_le _⟩) hS (fun q _ h => hFc q h) hFc (fun r51 u t H1 locs ht hvm hwp hB hz1 hk1 hS => ?_)
            obtain ⟨u51_1, u51_2, u51_3⟩ := u
            obtain ⟨hP1, -, hD1⟩ := hB
            rw [ht] at hP1
            obtain ⟨hP, hD⟩ := va_join (wr := [(q_firstOfGain, .inl (C 0, 1189, .inl t_firstOfGain)), (q1, .inr (0, [.ref q1_weight, .ref q1_gain, .ref q1_joy, .ref q1_barred, .ref q1_needed, .int t1_sets, .int t1_limit, .int t1_mustSet, .int t1_neverSet])), (q1_joy, .inl (C 0, 4096, .inl t1_joy)), (q_layer, .inl (C 0, 4096, .inl t_layer)), (q_nextOfGain, .inl (C 0, 4096, .inl t_nextOfGain))]) (w1 := [(q, .inr (3, [.ref q_layer, .ref q_size, .int u51_1, .ref q_topJoy, .ref q_firstOfJoy, .ref q_nextOfJoy, .ref q_firstOfGain, .ref q_nextOfGain])), (q_topJoy, .inl (C 0, 2378, .inl u51_2)), (q_size, .inl (C 0, 2378, .inl u51_3))]) hP hD [0, 4, 5] [1, 2, 3, 6, 7] rfl rfl (by decide) (by decide) hk1 hFc hP1 hD1
            generalize H1 = H at hP hS ⊢
            have hP : va_P D vwCl [(q_firstOfGain, .inl (C 0, 1189, .inl t_firstOfGain)), (q1, .inr (0, [.ref q1_weight, .ref q1_gain, .ref q1_joy, .ref q1_barred, .ref q1_needed, .int t1_sets, .int t1_limit, .int t1_mustSet, .int t1_neverSet])), (q1_joy, .inl (C 0, 4096, .inl t1_joy)), (q_layer, .inl (C 0, 4096, .inl t_layer)), (q_nextOfGain, .inl (C 0, 4096, .inl t_nextOfGain)), (q, .inr (3, [.ref q_layer, .ref q_size, .int u51_1, .ref q_topJoy, .ref q_firstOfJoy, .ref q_nextOfJoy, .ref q_firstOfGain, .ref q_nextOfGain])), (q_topJoy, .inl (C 0, 2378, .inl u51_2)), (q_size, .inl (C 0, 2378, .inl u51_3))] H := hP
            have hD : va_D A [(q_firstOfGain, .inl (C 0, 1189, .inl t_firstOfGain)), (q1, .inr (0, [.ref q1_weight, .ref q1_gain, .ref q1_joy, .ref q1_barred, .ref q1_needed, .int t1_sets, .int t1_limit, .int t1_mustSet, .int t1_neverSet])), (q1_joy, .inl (C 0, 4096, .inl t1_joy)), (q_layer, .inl (C 0, 4096, .inl t_layer)), (q_nextOfGain, .inl (C 0, 4096, .inl t_nextOfGain)), (q, .inr (3, [.ref q_layer, .ref q_size, .int u51_1, .ref q_topJoy, .ref q_firstOfJoy, .ref q_nextOfJoy, .ref q_firstOfGain, .ref q_nextOfGain])), (q_topJoy, .inl (C 0, 2378, .inl u51_2)), (q_size, .inl (C 0, 2378, .inl u51_3))] := hD
            refine lv_istore (lv' := [(5, .int r51), (4, .int v46), (0, .ref q), (1, .ref q1), (3, .int x3), (6, .int x6)]) hx hb dX3_placeGain_54 hl (by decide) rfl (fun ls hl => ?_)
            have hl9 := lv_sub (l' := [(0, .ref q), (1, .ref q1), (3, .int x3), (4, .int v46), (5, .int r51), (6, .int x6)]) hl [2, 3, 4, 1, 0, 5] rfl
            have hP9 := hP.sub (ws' := [(q, .inr (3, [.ref q_layer, .ref q_size, .int u51_1, .ref q_topJoy, .ref q_firstOfJoy, .ref q_nextOfJoy, .ref q_firstOfGain, .ref q_nextOfGain])), (q_firstOfGain, .inl (C 0, 1189, .inl t_firstOfGain)), (q1, .inr (0, [.ref q1_weight, .ref q1_gain, .ref q1_joy, .ref q1_barred, .ref q1_needed, .int t1_sets, .int t1_limit, .int t1_mustSet, .int t1_neverSet])), (q1_joy, .inl (C 0, 4096, .inl t1_joy)), (q_topJoy, .inl (C 0, 2378, .inl u51_2)), (q_size, .inl (C 0, 2378, .inl u51_3)), (q_layer, .inl (C 0, 4096, .inl t_layer)), (q_nextOfGain, .inl (C 0, 4096, .inl t_nextOfGain))]) [5, 0, 1, 2, 6, 7, 3, 4] rfl
            have hD9 := hD.sub (ws' := [(q, .inr (3, [.ref q_layer, .ref q_size, .int u51_1, .ref q_topJoy, .ref q_firstOfJoy, .ref q_nextOfJoy, .ref q_firstOfGain, .ref q_nextOfGain])), (q_firstOfGain, .inl (C 0, 1189, .inl t_firstOfGain)), (q1, .inr (0, [.ref q1_weight, .ref q1_gain, .ref q1_joy, .ref q1_barred, .ref q1_needed, .int t1_sets, .int t1_limit, .int t1_mustSet, .int t1_neverSet])), (q1_joy, .inl (C 0, 4096, .inl t1_joy)), (q_topJoy, .inl (C 0, 2378, .inl u51_2)), (q_size, .inl (C 0, 2378, .inl u51_3)), (q_layer, .inl (C 0, 4096, .inl t_layer)), (q_nextOfGain, .inl (C 0, 4096, .inl t_nextOfGain))]) [5, 0, 1, 2, 6, 7, 3, 4] (by decide) rfl
            exact HB56 _ (fun z0 z1 z2 z3 z4 z5 z6 z7 H locs ls hl hP hD hS hwp => ih z0 z1 z2 z3 z4 z5 z6 z7 H locs ls hl hP hD hS hwp) x3 v46 r51 x6 u51_1 u51_2 u51_3 t_layer H locs ls hl9 hP9 hD9 hS hwp
  unfold wp_X3_placeGain at hwp
  obtain ⟨H, hH⟩ : ∃ H, H = s.heap := ⟨_, rfl⟩
  obtain ⟨locs, hlo⟩ : ∃ z : List Loc, z = [] := ⟨_, rfl⟩
  have hP : va_P D vwCl [(q, .inr (3, [.ref q_layer, .ref q_size, .int t_count, .ref q_topJoy, .ref q_firstOfJoy, .ref q_nextOfJoy, .ref q_firstOfGain, .ref q_nextOfGain])), (q_firstOfGain, .inl (C 0, 1189, .inl t_firstOfGain)), (q1, .inr (0, [.ref q1_weight, .ref q1_gain, .ref q1_joy, .ref q1_barred, .ref q1_needed, .int t1_sets, .int t1_limit, .int t1_mustSet, .int t1_neverSet])), (q1_joy, .inl (C 0, 4096, .inl t1_joy)), (q_topJoy, .inl (C 0, 2378, .inl t_topJoy)), (q_size, .inl (C 0, 2378, .inl t_size)), (q_layer, .inl (C 0, 4096, .inl t_layer)), (q_nextOfGain, .inl (C 0, 4096, .inl t_nextOfGain))] H := by rw [hH]; exact hP
  have hD : va_D A [(q, .inr (3, [.ref q_layer, .ref q_size, .int t_count, .ref q_topJoy, .ref q_firstOfJoy, .ref q_nextOfJoy, .ref q_firstOfGain, .ref q_nextOfGain])), (q_firstOfGain, .inl (C 0, 1189, .inl t_firstOfGain)), (q1, .inr (0, [.ref q1_weight, .ref q1_gain, .ref q1_joy, .ref q1_barred, .ref q1_needed, .int t1_sets, .int t1_limit, .int t1_mustSet, .int t1_neverSet])), (q1_joy, .inl (C 0, 4096, .inl t1_joy)), (q_topJoy, .inl (C 0, 2378, .inl t_topJoy)), (q_size, .inl (C 0, 2378, .inl t_size)), (q_layer, .inl (C 0, 4096, .inl t_layer)), (q_nextOfGain, .inl (C 0, 4096, .inl t_nextOfGain))] := hD
  have hS : va_S A s.heap H locs := by rw [hH, hlo]; exact hS
  suffices K : W p l e (headSpec ws_X3_placeGain rm_X3_placeGain).room s m ([.ref q, .ref q1, .int p2] : List Value).toArray below meth c H locs 0 0 (MQ below (q_X3_placeGain D C q q_layer q_size q_topJoy q_firstOfJoy q_nextOfJoy q_firstOfGain q_nextOfGain q1 q1_weight q1_gain q1_joy q1_barred q1_needed t_firstOfGain t1_sets t1_limit t1_mustSet t1_neverSet t1_joy t_nextOfGain Q A) ([.ref q, .ref q1, .int p2] : List Value).toArray s 0 0 A) (F0 m 0 ls []) from by rw [hH, hlo] at K; exact K
  refine lv_aload_n hx hb dX3_placeGain_0 rfl (lv_at hl 0 rfl) ?_
  refine va_get (D := D) (ci := 3) (v := .ref q_firstOfGain) (C := RX3) (T := TX3) (N := 8) hx hb hts iwX3 hown hK hP 0 rfl rfl 6 (by decide) (hts (.fieldLink RX3 27 "ParetoDesk$Layers" "firstOfGain" "[I") wd_359) (fun _ h9 => h9) rfl dX3_placeGain_1 ?_
  refine lv_iload_n hx hb dX3_placeGain_4 rfl (lv_at hl 2 rfl) ?_
  obtain ⟨hi5, hwp⟩ := hwp
  refine va_iald (D := D) hx hb hK hP 1 0 rfl rfl hi5 dX3_placeGain_5 ?_
  refine lv_topi (fun v6 ev6 => ?_)
  have hwp := hwp v6 ev6
  refine lv_istore_n (lv' := [(3, .int v6), (0, .ref q), (1, .ref q1), (2, .int p2)]) hx hb dX3_placeGain_6 rfl hl (by decide) rfl (fun ls hl => ?_)
  refine lv_iconst (v := (-1)) hx hb dX3_placeGain_7 (by decide) ?_
  refine lv_istore (lv' := [(4, .int (-1 : Int32)), (3, .int v6), (0, .ref q), (1, .ref q1), (2, .int p2)]) hx hb dX3_placeGain_8 hl (by decide) rfl (fun ls hl => ?_)
  refine lv_iconst (v := (-1)) hx hb dX3_placeGain_10 (by decide) ?_
  refine lv_istore (lv' := [(5, .int (-1 : Int32)), (4, .int (-1 : Int32)), (3, .int v6), (0, .ref q), (1, .ref q1), (2, .int p2)]) hx hb dX3_placeGain_11 hl (by decide) rfl (fun ls hl => ?_)
  refine lv_iconst (v := 0) hx hb dX3_placeGain_13 (by decide) ?_
  refine lv_istore (lv' := [(6, .int (0 : Int32)), (5, .int (-1 : Int32)), (4, .int (-1 : Int32)), (3, .int v6), (0, .ref q), (1, .ref q1), (2, .int p2)]) hx hb dX3_placeGain_14 hl (by decide) rfl (fun ls hl => ?_)
  have hl9 := lv_sub (l' := [(0, .ref q), (1, .ref q1), (3, .int v6), (4, .int (-1 : Int32)), (5, .int (-1 : Int32)), (6, .int (0 : Int32))]) hl [4, 5, 3, 2, 1, 0] rfl
  have hP9 := hP.sub (ws' := [(q, .inr (3, [.ref q_layer, .ref q_size, .int t_count, .ref q_topJoy, .ref q_firstOfJoy, .ref q_nextOfJoy, .ref q_firstOfGain, .ref q_nextOfGain])), (q_firstOfGain, .inl (C 0, 1189, .inl t_firstOfGain)), (q1, .inr (0, [.ref q1_weight, .ref q1_gain, .ref q1_joy, .ref q1_barred, .ref q1_needed, .int t1_sets, .int t1_limit, .int t1_mustSet, .int t1_neverSet])), (q1_joy, .inl (C 0, 4096, .inl t1_joy)), (q_topJoy, .inl (C 0, 2378, .inl t_topJoy)), (q_size, .inl (C 0, 2378, .inl t_size)), (q_layer, .inl (C 0, 4096, .inl t_layer)), (q_nextOfGain, .inl (C 0, 4096, .inl t_nextOfGain))]) [0, 1, 2, 3, 4, 5, 6, 7] rfl
  have hD9 := hD.sub (ws' := [(q, .inr (3, [.ref q_layer, .ref q_size, .int t_count, .ref q_topJoy, .ref q_firstOfJoy, .ref q_nextOfJoy, .ref q_firstOfGain, .ref q_nextOfGain])), (q_firstOfGain, .inl (C 0, 1189, .inl t_firstOfGain)), (q1, .inr (0, [.ref q1_weight, .ref q1_gain, .ref q1_joy, .ref q1_barred, .ref q1_needed, .int t1_sets, .int t1_limit, .int t1_mustSet, .int t1_neverSet])), (q1_joy, .inl (C 0, 4096, .inl t1_joy)), (q_topJoy, .inl (C 0, 2378, .inl t_topJoy)), (q_size, .inl (C 0, 2378, .inl t_size)), (q_layer, .inl (C 0, 4096, .inl t_layer)), (q_nextOfGain, .inl (C 0, 4096, .inl t_nextOfGain))]) [0, 1, 2, 3, 4, 5, 6, 7] (by decide) rfl
  obtain ⟨nn9, hwp⟩ := hwp
  refine HL16  nn9 v6 (-1 : Int32) (-1 : Int32) (0 : Int32) t_count t_topJoy t_size t_layer H locs ls hl9 hP9 hD9 hS hwp
abbrev ws_X3_build : List Cond := .code yX3_build cX3_build 4 none :: WALL
theorem gc_X3_37 : GoodIn WALL (wsV RX3 37 RX3 yX3_sortByJoy ws_X3_sortByJoy) := gc_v wd_1158 wd_1160 wd_29 wd_44 wd_1161
theorem gc_X3_41 : GoodIn WALL (wsV RX3 41 RX3 yX3_sortByGain ws_X3_sortByGain) := gc_v wd_1167 wd_1169 wd_30 wd_44 wd_1170
theorem gc_X3_45 : GoodIn WALL (wsV RX3 45 RX3 yX3_placeGain ws_X3_placeGain) := gc_v wd_1171 wd_1173 wd_31 wd_44 wd_1174
abbrev rm_X3_build : Room := { frames := 4, cells := 0, slots := 0, locals := 86 }
abbrev w_X3_build (C : Nat → ClassId) (q : Nat) (q_layer : Nat) (q_size : Nat) (q_topJoy : Nat) (q_firstOfJoy : Nat) (q_nextOfJoy : Nat) (q_firstOfGain : Nat) (q_nextOfGain : Nat) (q1 : Nat) (q1_weight : Nat) (q1_gain : Nat) (q1_joy : Nat) (q1_barred : Nat) (q1_needed : Nat) (t_count : Int32) (t_firstOfJoy : Nat → Int32) (t1_sets : Int32) (t1_limit : Int32) (t1_mustSet : Int32) (t1_neverSet : Int32) (t_layer : Nat → Int32) (t1_weight : Nat → Int32) (t1_barred : Nat → Int32) (t1_needed : Nat → Int32) (t1_joy : Nat → Int32) (t_nextOfJoy : Nat → Int32) (t_firstOfGain : Nat → Int32) (t1_gain : Nat → Int32) (t_nextOfGain : Nat → Int32) (t_topJoy : Nat → Int32) (t_size : Nat → Int32) : va_W := [(q, .inr (3, [.ref q_layer, .ref q_size, .int t_count, .ref q_topJoy, .ref q_firstOfJoy, .ref q_nextOfJoy, .ref q_firstOfGain, .ref q_nextOfGain])), (q_firstOfJoy, .inl (C 0, 1189, .inl t_firstOfJoy)), (q1, .inr (0, [.ref q1_weight, .ref q1_gain, .ref q1_joy, .ref q1_barred, .ref q1_needed, .int t1_sets, .int t1_limit, .int t1_mustSet, .int t1_neverSet])), (q_layer, .inl (C 0, 4096, .inl t_layer)), (q1_weight, .inl (C 0, 4096, .inl t1_weight)), (q1_barred, .inl (C 0, 4096, .inl t1_barred)), (q1_needed, .inl (C 0, 4096, .inl t1_needed)), (q1_joy, .inl (C 0, 4096, .inl t1_joy)), (q_nextOfJoy, .inl (C 0, 4096, .inl t_nextOfJoy)), (q_firstOfGain, .inl (C 0, 1189, .inl t_firstOfGain)), (q1_gain, .inl (C 0, 4096, .inl t1_gain)), (q_nextOfGain, .inl (C 0, 4096, .inl t_nextOfGain)), (q_topJoy, .inl (C 0, 2378, .inl t_topJoy)), (q_size, .inl (C 0, 2378, .inl t_size))]
abbrev q_X3_build (D : va_G) (C : Nat → ClassId) (q : Nat) (q_layer : Nat) (q_size : Nat) (q_topJoy : Nat) (q_firstOfJoy : Nat) (q_nextOfJoy : Nat) (q_firstOfGain : Nat) (q_nextOfGain : Nat) (q1 : Nat) (q1_weight : Nat) (q1_gain : Nat) (q1_joy : Nat) (q1_barred : Nat) (q1_needed : Nat) (t1_sets : Int32) (t1_limit : Int32) (t1_mustSet : Int32) (t1_neverSet : Int32) (t1_weight : Nat → Int32) (t1_barred : Nat → Int32) (t1_needed : Nat → Int32) (t1_joy : Nat → Int32) (t1_gain : Nat → Int32) (Q : Int32 → (Nat → Int32) → (Nat → Int32) → (Nat → Int32) → (Nat → Int32) → (Nat → Int32) → (Nat → Int32) → (Nat → Int32) → Prop) (A : Nat → Prop) : Array Value → State → Outcome → State → Prop := va_Qv (fun (u : Int32 × (Nat → Int32) × (Nat → Int32) × (Nat → Int32) × (Nat → Int32) × (Nat → Int32) × (Nat → Int32) × (Nat → Int32)) => Q u.1 u.2.1 u.2.2.1 u.2.2.2.1 u.2.2.2.2.1 u.2.2.2.2.2.1 u.2.2.2.2.2.2.1 u.2.2.2.2.2.2.2) (fun (u : Int32 × (Nat → Int32) × (Nat → Int32) × (Nat → Int32) × (Nat → Int32) × (Nat → Int32) × (Nat → Int32) × (Nat → Int32)) (t : State) => va_P D vwCl (w_X3_build C q q_layer q_size q_topJoy q_firstOfJoy q_nextOfJoy q_firstOfGain q_nextOfGain q1 q1_weight q1_gain q1_joy q1_barred q1_needed u.1 u.2.1 t1_sets t1_limit t1_mustSet t1_neverSet u.2.2.1 t1_weight t1_barred t1_needed t1_joy u.2.2.2.1 u.2.2.2.2.1 t1_gain u.2.2.2.2.2.1 u.2.2.2.2.2.2.1 u.2.2.2.2.2.2.2) t.heap ∧ va_K D vwCl (tyL C) t ∧ va_D A (w_X3_build C q q_layer q_size q_topJoy q_firstOfJoy q_nextOfJoy q_firstOfGain q_nextOfGain q1 q1_weight q1_gain q1_joy q1_barred q1_needed u.1 u.2.1 t1_sets t1_limit t1_mustSet t1_neverSet u.2.2.1 t1_weight t1_barred t1_needed t1_joy u.2.2.2.1 u.2.2.2.2.1 t1_gain u.2.2.2.2.2.1 u.2.2.2.2.2.2.1 u.2.2.2.2.2.2.2)) A
set_option maxHeartbeats 4000000 in
set_option maxRecDepth 100000 in
theorem met_X3_build (l : Launch) (D : va_G) (C : Nat → ClassId) (q : Nat) (q_layer : Nat) (q_size : Nat) (q_topJoy : Nat) (q_firstOfJoy : Nat) (q_nextOfJoy : Nat) (q_firstOfGain : Nat) (q_nextOfGain : Nat) (q1 : Nat) (q1_weight : Nat) (q1_gain : Nat) (q1_joy : Nat) (q1_barred : Nat) (q1_needed : Nat) (p2 : Int32) (t_count : Int32) (t_firstOfJoy : Nat → Int32) (t1_sets : Int32) (t1_limit : Int32) (t1_mustSet : Int32) (t1_neverSet : Int32) (t_layer : Nat → Int32) (t1_weight : Nat → Int32) (t1_barred : Nat → Int32) (t1_needed : Nat → Int32) (t1_joy : Nat → Int32) (t_nextOfJoy : Nat → Int32) (t_firstOfGain : Nat → Int32) (t1_gain : Nat → Int32) (t_nextOfGain : Nat → Int32) (t_topJoy : Nat → Int32) (t_size : Nat → Int32) (sz : Nat) (Q : Int32 → (Nat → Int32) → (Nat → Int32) → (Nat → Int32) → (Nat → Int32) → (Nat → Int32) → (Nat → Int32) → (Nat → Int32) → Prop) (hwp : wp_X3_build p2 t_count t_firstOfJoy t1_sets t1_limit t1_mustSet t1_neverSet t_layer t1_weight t1_barred t1_needed t1_joy t_nextOfJoy t_firstOfGain t1_gain t_nextOfGain t_topJoy t_size Q) : Met l yX3_build ws_X3_build rm_X3_build (va_Pc [.ref q, .ref q1, .int p2] (fun U => U.heap.size = sz ∧ va_P D vwCl (w_X3_build C q q_layer q_size q_topJoy q_firstOfJoy q_nextOfJoy q_firstOfGain q_nextOfGain q1 q1_weight q1_gain q1_joy q1_barred q1_needed t_count t_firstOfJoy t1_sets t1_limit t1_mustSet t1_neverSet t_layer t1_weight t1_barred t1_needed t1_joy t_nextOfJoy t_firstOfGain t1_gain t_nextOfGain t_topJoy t_size) U.heap ∧ va_K D vwCl (tyL C) U ∧ va_D (fun _ => True) (w_X3_build C q q_layer q_size q_topJoy q_firstOfJoy q_nextOfJoy q_firstOfGain q_nextOfGain q1 q1_weight q1_gain q1_joy q1_barred q1_needed t_count t_firstOfJoy t1_sets t1_limit t1_mustSet t1_neverSet t_layer t1_weight t1_barred t1_needed t1_joy t_nextOfJoy t_firstOfGain t1_gain t_nextOfGain t_topJoy t_size))) (q_X3_build D C q q_layer q_size q_topJoy q_firstOfJoy q_nextOfJoy q_firstOfGain q_nextOfGain q1 q1_weight q1_gain q1_joy q1_barred q1_needed t1_sets t1_limit t1_mustSet t1_neverSet t1_weight t1_barred t1_needed t1_joy t1_gain Q (va_A (w_X3_build C q q_layer q_size q_topJoy q_firstOfJoy q_nextOfJoy q_firstOfGain q_nextOfGain q1 q1_weight q1_gain q1_joy q1_barred q1_needed t_count t_firstOfJoy t1_sets t1_limit t1_mustSet t1_neverSet t_layer t1_weight t1_barred t1_needed t1_joy t_nextOfJoy t_firstOfGain t1_gain t_nextOfGain t_topJoy t_size) sz)) 0 0 (va_A (w_X3_build C q q_layer q_size q_topJoy q_firstOfJoy q_nextOfJoy q_firstOfGain q_nextOfGain q1 q1_weight q1_gain q1_joy q1_barred q1_needed t_count t_firstOfJoy t1_sets t1_limit t1_mustSet t1_neverSet t_layer t1_weight t1_barred t1_needed t1_joy t_nextOfJoy t_firstOfGain t1_gain t_nextOfGain t_topJoy t_size) sz) := by
  refine Met.ofW (cc := cX3_build) (maxL := 4) (ret := none) (by decide) rfl ?_
  intro p e s m args below meth c s₁ B hml hv
  obtain ⟨rfl, hsz, hP, hK, hD0⟩ := hv
  have hx := B.exec
  have hb := B.bytes
  have hr := B.returns
  have hts : ∀ w ∈ WALL, w.before _ s = true := fun w h => atoms_spec (ws := ws_X3_build) B.pre w (List.mem_cons_of_mem _ h)
  have hown : s.vm.findClass RX3 = some m.cls := findClass_of_methodNamed B.named
  have hlocks := B.notSynchronized
  subst hsz
  have hD := hD0.self (sz := s.heap.size)
  generalize hAe : va_A (w_X3_build C q q_layer q_size q_topJoy q_firstOfJoy q_nextOfJoy q_firstOfGain q_nextOfGain q1 q1_weight q1_gain q1_joy q1_barred q1_needed t_count t_firstOfJoy t1_sets t1_limit t1_mustSet t1_neverSet t_layer t1_weight t1_barred t1_needed t1_joy t_nextOfJoy t_firstOfGain t1_gain t_nextOfGain t_topJoy t_size) s.heap.size = A at hD ⊢
  have hA : ∀ q : Nat, s.heap.size ≤ q → A q := fun q h => by rw [← hAe]; exact Or.inr h
  have hS : va_S A s.heap s.heap [] := va_S.rf
  have hl := lv_entry ([.ref q, .ref q1, .int p2]) (n := 4) (Nat.le_of_ble_eq_true rfl)
  rw [lg_entry_eq]
  generalize (lg_sl ([.ref q, .ref q1, .int p2]) ++ List.replicate (4 - (lg_sl ([.ref q, .ref q1, .int p2])).length) Slot.unset).toArray = ls at hl ⊢
  have hl : lv_has ls 4 [(0, .ref q), (1, .ref q1), (2, .int p2)] := hl
  have HL20 : ∀ (t_firstOfJoy : Nat → Int32) (t_nextOfJoy : Nat → Int32) (t_firstOfGain : Nat → Int32) (t_nextOfGain : Nat → Int32) (n20 : Nat) (x3 : Int32) (t_count : Int32) (t_layer : Nat → Int32) (t_topJoy : Nat → Int32) (t_size : Nat → Int32) (H : Heap) (locs : List Loc) (ls : Array Slot), lv_has ls 4 [(0, .ref q), (1, .ref q1), (3, .int x3)] → va_P D vwCl [(q, .inr (3, [.ref q_layer, .ref q_size, .int t_count, .ref q_topJoy, .ref q_firstOfJoy, .ref q_nextOfJoy, .ref q_firstOfGain, .ref q_nextOfGain])), (q_firstOfJoy, .inl (C 0, 1189, .inl t_firstOfJoy)), (q1, .inr (0, [.ref q1_weight, .ref q1_gain, .ref q1_joy, .ref q1_barred, .ref q1_needed, .int t1_sets, .int t1_limit, .int t1_mustSet, .int t1_neverSet])), (q_layer, .inl (C 0, 4096, .inl t_layer)), (q1_weight, .inl (C 0, 4096, .inl t1_weight)), (q1_barred, .inl (C 0, 4096, .inl t1_barred)), (q1_needed, .inl (C 0, 4096, .inl t1_needed)), (q1_joy, .inl (C 0, 4096, .inl t1_joy)), (q_nextOfJoy, .inl (C 0, 4096, .inl t_nextOfJoy)), (q_firstOfGain, .inl (C 0, 1189, .inl t_firstOfGain)), (q1_gain, .inl (C 0, 4096, .inl t1_gain)), (q_nextOfGain, .inl (C 0, 4096, .inl t_nextOfGain)), (q_topJoy, .inl (C 0, 2378, .inl t_topJoy)), (q_size, .inl (C 0, 2378, .inl t_size))] H → va_D A [(q, .inr (3, [.ref q_layer, .ref q_size, .int t_count, .ref q_topJoy, .ref q_firstOfJoy, .ref q_nextOfJoy, .ref q_firstOfGain, .ref q_nextOfGain])), (q_firstOfJoy, .inl (C 0, 1189, .inl t_firstOfJoy)), (q1, .inr (0, [.ref q1_weight, .ref q1_gain, .ref q1_joy, .ref q1_barred, .ref q1_needed, .int t1_sets, .int t1_limit, .int t1_mustSet, .int t1_neverSet])), (q_layer, .inl (C 0, 4096, .inl t_layer)), (q1_weight, .inl (C 0, 4096, .inl t1_weight)), (q1_barred, .inl (C 0, 4096, .inl t1_barred)), (q1_needed, .inl (C 0, 4096, .inl t1_needed)), (q1_joy, .inl (C 0, 4096, .inl t1_joy)), (q_nextOfJoy, .inl (C 0, 4096, .inl t_nextOfJoy)), (q_firstOfGain, .inl (C 0, 1189, .inl t_firstOfGain)), (q1_gain, .inl (C 0, 4096, .inl t1_gain)), (q_nextOfGain, .inl (C 0, 4096, .inl t_nextOfGain)), (q_topJoy, .inl (C 0, 2378, .inl t_topJoy)), (q_size, .inl (C 0, 2378, .inl t_size))] → va_S A s.heap H locs → wp_X3_build_L20 t1_sets t1_limit t1_mustSet t1_neverSet t1_weight t1_barred t1_needed t1_joy t1_gain t_firstOfJoy t_nextOfJoy t_firstOfGain t_nextOfGain Q n20 x3 t_count t_layer t_topJoy t_size → W p l e (headSpec ws_X3_build rm_X3_build).room s m ([.ref q, .ref q1, .int p2] : List Value).toArray below meth c H locs 0 0 (MQ below (q_X3_build D C q q_layer q_size q_topJoy q_firstOfJoy q_nextOfJoy q_firstOfGain q_nextOfGain q1 q1_weight q1_gain q1_joy q1_barred q1_needed t1_sets t1_limit t1_mustSet t1_neverSet t1_weight t1_barred t1_needed t1_joy t1_gain Q A) ([.ref q, .ref q1, .int p2] : List Value).toArray s 0 0 A) (F0 m 20 ls []) := by
    intro t_firstOfJoy t_nextOfJoy t_firstOfGain t_nextOfGain n20
    induction n20 with
    | zero =>
      intro x3 t_count t_layer t_topJoy t_size H locs ls hl hP hD hS hwp
      exact False.elim hwp
    | succ n20 ih =>
      intro x3 t_count t_layer t_topJoy t_size H locs ls hl hP hD hS hwp
      unfold wp_X3_build_L20 at hwp
      refine lv_iload_n hx hb dX3_build_20 rfl (lv_at hl 2 rfl) ?_
      refine lv_if_lt (tgt := 36) hx hb dX3_build_21 (by decide) (fun c21 => ?_) (fun c21 => ?_)
      · have hwp := hwp.1 c21
        have hP9 := hP.sub (ws' := [(q, .inr (3, [.ref q_layer, .ref q_size, .int t_count, .ref q_topJoy, .ref q_firstOfJoy, .ref q_nextOfJoy, .ref q_firstOfGain, .ref q_nextOfGain])), (q_firstOfJoy, .inl (C 0, 1189, .inl t_firstOfJoy)), (q1, .inr (0, [.ref q1_weight, .ref q1_gain, .ref q1_joy, .ref q1_barred, .ref q1_needed, .int t1_sets, .int t1_limit, .int t1_mustSet, .int t1_neverSet])), (q_layer, .inl (C 0, 4096, .inl t_layer)), (q1_weight, .inl (C 0, 4096, .inl t1_weight)), (q1_barred, .inl (C 0, 4096, .inl t1_barred)), (q1_needed, .inl (C 0, 4096, .inl t1_needed)), (q1_joy, .inl (C 0, 4096, .inl t1_joy)), (q_nextOfJoy, .inl (C 0, 4096, .inl t_nextOfJoy)), (q_firstOfGain, .inl (C 0, 1189, .inl t_firstOfGain)), (q1_gain, .inl (C 0, 4096, .inl t1_gain)), (q_nextOfGain, .inl (C 0, 4096, .inl t_nextOfGain)), (q_topJoy, .inl (C 0, 2378, .inl t_topJoy)), (q_size, .inl (C 0, 2378, .inl t_size))]) [0, 1, 2, 3, 4, 5, 6, 7, 8, 9, 10, 11, 12, 13] rfl
        have hD9 := hD.sub (ws' := [(q, .inr (3, [.ref q_layer, .ref q_size, .int t_count, .ref q_topJoy, .ref q_firstOfJoy, .ref q_nextOfJoy, .ref q_firstOfGain, .ref q_nextOfGain])), (q_firstOfJoy, .inl (C 0, 1189, .inl t_firstOfJoy)), (q1, .inr (0, [.ref q1_weight, .ref q1_gain, .ref q1_joy, .ref q1_barred, .ref q1_needed, .int t1_sets, .int t1_limit, .int t1_mustSet, .int t1_neverSet])), (q_layer, .inl (C 0, 4096, .inl t_layer)), (q1_weight, .inl (C 0, 4096, .inl t1_weight)), (q1_barred, .inl (C 0, 4096, .inl t1_barred)), (q1_needed, .inl (C 0, 4096, .inl t1_needed)), (q1_joy, .inl (C 0, 4096, .inl t1_joy)), (q_nextOfJoy, .inl (C 0, 4096, .inl t_nextOfJoy)), (q_firstOfGain, .inl (C 0, 1189, .inl t_firstOfGain)), (q1_gain, .inl (C 0, 4096, .inl t1_gain)), (q_nextOfGain, .inl (C 0, 4096, .inl t_nextOfGain)), (q_topJoy, .inl (C 0, 2378, .inl t_topJoy)), (q_size, .inl (C 0, 2378, .inl t_size))]) [0, 1, 2, 3, 4, 5, 6, 7, 8, 9, 10, 11, 12, 13] (by decide) rfl
        exact W.vret hx hb hr (fun t ht hW => ⟨⟨(t_count, t_firstOfJoy, t_layer, t_nextOfJoy, t_firstOfGain, t_nextOfGain, t_topJoy, t_size), rfl, hwp, by rw [ht]; exact hP9, va_K.moved hW.alike hK, hD9⟩, hS.F ht⟩) hS.2.2 dX3_build_36
      · have hwp := hwp.2 c21
        refine lv_aload_n hx hb dX3_build_24 rfl (lv_at hl 0 rfl) ?_
        refine lv_aload_n hx hb dX3_build_25 rfl (lv_at hl 1 rfl) ?_
        refine lv_iload_n hx hb dX3_build_26 rfl (lv_at hl 2 rfl) ?_
        have hPc := hP.sub (ws' := [(q, .inr (3, [.ref q_layer, .ref q_size, .int t_count, .ref q_topJoy, .ref q_firstOfJoy, .ref q_nextOfJoy, .ref q_firstOfGain, .ref q_nextOfGain])), (q_firstOfGain, .inl (C 0, 1189, .inl t_firstOfGain)), (q1, .inr (0, [.ref q1_weight, .ref q1_gain, .ref q1_joy, .ref q1_barred, .ref q1_needed, .int t1_sets, .int t1_limit, .int t1_mustSet, .int t1_neverSet])), (q1_joy, .inl (C 0, 4096, .inl t1_joy)), (q_topJoy, .inl (C 0, 2378, .inl t_topJoy)), (q_size, .inl (C 0, 2378, .inl t_size)), (q_layer, .inl (C 0, 4096, .inl t_layer)), (q_nextOfGain, .inl (C 0, 4096, .inl t_nextOfGain))]) [0, 9, 2, 7, 12, 13, 3, 11] rfl
        have hDc := hD.sub (ws' := [(q, .inr (3, [.ref q_layer, .ref q_size, .int t_count, .ref q_topJoy, .ref q_firstOfJoy, .ref q_nextOfJoy, .ref q_firstOfGain, .ref q_nextOfGain])), (q_firstOfGain, .inl (C 0, 1189, .inl t_firstOfGain)), (q1, .inr (0, [.ref q1_weight, .ref q1_gain, .ref q1_joy, .ref q1_barred, .ref q1_needed, .int t1_sets, .int t1_limit, .int t1_mustSet, .int t1_neverSet])), (q1_joy, .inl (C 0, 4096, .inl t1_joy)), (q_topJoy, .inl (C 0, 2378, .inl t_topJoy)), (q_size, .inl (C 0, 2378, .inl t_size)), (q_layer, .inl (C 0, 4096, .inl t_layer)), (q_nextOfGain, .inl (C 0, 4096, .inl t_nextOfGain))]) [0, 9, 2, 7, 12, 13, 3, 11] (by decide) rfl
        have hFc := va_free (wc := [(q, .inr (3, [.ref q_layer, .ref q_size, .int t_count, .ref q_topJoy, .ref q_firstOfJoy, .ref q_nextOfJoy, .ref q_firstOfGain, .ref q_nextOfGain])), (q_firstOfGain, .inl (C 0, 1189, .inl t_firstOfGain)), (q1, .inr (0, [.ref q1_weight, .ref q1_gain, .ref q1_joy, .ref q1_barred, .ref q1_needed, .int t1_sets, .int t1_limit, .int t1_mustSet, .int t1_neverSet])), (q1_joy, .inl (C 0, 4096, .inl t1_joy)), (q_topJoy, .inl (C 0, 2378, .inl t_topJoy)), (q_size, .inl (C 0, 2378, .inl t_size)), (q_layer, .inl (C 0, 4096, .inl t_layer)), (q_nextOfGain, .inl (C 0, 4096, .inl t_nextOfGain))]) hD hS hA [0, 9, 2, 7, 12, 13, 3, 11] rfl
        refine va_callv (va_runV (As := [.ref q1, .int x3]) (rest := []) ⟨hx, hb, hml, hown, hts⟩ (met_X3_placeGain l D C q q_layer q_size q_topJoy q_firstOfJoy q_nextOfJoy q_firstOfGain q_nextOfGain q1 q1_weight q1_gain q1_joy q1_barred q1_needed x3 t_count t_firstOfGain t1_sets t1_limit t1_mustSet t1_neverSet t1_joy t_topJoy t_size t_layer t_nextOfGain H.size _ hwp) (cwV 2 hts gc_X3_45 rfl rfl rfl (by decide +kernel) ⟨Nat.le_of_ble_eq_true rfl, Nat.le_of_ble_eq_true rfl⟩) ⟨fun a U g mk q => by obtain ⟨q0, q1, qP, qK, qD⟩ := q; exact ⟨q0, q1, qP, va_K.moved (u := U) (U := U.calling g mk a) (Vm.Alike.refl U.vm) qK, qD⟩, va_recv hK hPc (ci := 3) (q0 := 0) rfl rfl, fun U hU hW => ⟨rfl, by rw [hU], by rw [hU]; exact hPc, va_K.moved hW.alike hK, hDc.weaken (fun _ _ _ _ => trivial)⟩⟩ rfl rfl hl.1 rfl (lv_room (Nat.le_of_ble_eq_true rfl)) dX3_build_27 ⟨Nat.zero_le _, Nat.zero_le _⟩) hS (fun q _ h => hFc q h) hFc (fun u t H1 locs ht hvm hwp hB hz1 hk1 hS => ?_)
        obtain ⟨u27_6, u27_7, u27_8, u27_9⟩ := u
        obtain ⟨hP1, -, hD1⟩ := hB
        rw [ht] at hP1
        obtain ⟨hP, hD⟩ := va_join (wr := [(q_firstOfJoy, .inl (C 0, 1189, .inl t_firstOfJoy)), (q1_weight, .inl (C 0, 4096, .inl t1_weight)), (q1_barred, .inl (C 0, 4096, .inl t1_barred)), (q1_needed, .inl (C 0, 4096, .inl t1_needed)), (q_nextOfJoy, .inl (C 0, 4096, .inl t_nextOfJoy)), (q1_gain, .inl (C 0, 4096, .inl t1_gain))]) (w1 := [(q, .inr (3, [.ref q_layer, .ref q_size, .int u27_6, .ref q_topJoy, .ref q_firstOfJoy, .ref q_nextOfJoy, .ref q_firstOfGain, .ref q_nextOfGain])), (q_firstOfGain, .inl (C 0, 1189, .inl t_firstOfGain)), (q1, .inr (0, [.ref q1_weight, .ref q1_gain, .ref q1_joy, .ref q1_barred, .ref q1_needed, .int t1_sets, .int t1_limit, .int t1_mustSet, .int t1_neverSet])), (q1_joy, .inl (C 0, 4096, .inl t1_joy)), (q_topJoy, .inl (C 0, 2378, .inl u27_7)), (q_size, .inl (C 0, 2378, .inl u27_8)), (q_layer, .inl (C 0, 4096, .inl u27_9)), (q_nextOfGain, .inl (C 0, 4096, .inl t_nextOfGain))]) hP hD [0, 9, 2, 7, 12, 13, 3, 11] [1, 4, 5, 6, 8, 10] rfl rfl (by decide) (by decide) hk1 hFc hP1 hD1
        generalize H1 = H at hP hS ⊢
        have hP : va_P D vwCl [(q_firstOfJoy, .inl (C 0, 1189, .inl t_firstOfJoy)), (q1_weight, .inl (C 0, 4096, .inl t1_weight)), (q1_barred, .inl (C 0, 4096, .inl t1_barred)), (q1_needed, .inl (C 0, 4096, .inl t1_needed)), (q_nextOfJoy, .inl (C 0, 4096, .inl t_nextOfJoy)), (q1_gain, .inl (C 0, 4096, .inl t1_gain)), (q, .inr (3, [.ref q_layer, .ref q_size, .int u27_6, .ref q_topJoy, .ref q_firstOfJoy, .ref q_nextOfJoy, .ref q_firstOfGain, .ref q_nextOfGain])), (q_firstOfGain, .inl (C 0, 1189, .inl t_firstOfGain)), (q1, .inr (0, [.ref q1_weight, .ref q1_gain, .ref q1_joy, .ref q1_barred, .ref q1_needed, .int t1_sets, .int t1_limit, .int t1_mustSet, .int t1_neverSet])), (q1_joy, .inl (C 0, 4096, .inl t1_joy)), (q_topJoy, .inl (C 0, 2378, .inl u27_7)), (q_size, .inl (C 0, 2378, .inl u27_8)), (q_layer, .inl (C 0, 4096, .inl u27_9)), (q_nextOfGain, .inl (C 0, 4096, .inl t_nextOfGain))] H := hP
        have hD : va_D A [(q_firstOfJoy, .inl (C 0, 1189, .inl t_firstOfJoy)), (q1_weight, .inl (C 0, 4096, .inl t1_weight)), (q1_barred, .inl (C 0, 4096, .inl t1_barred)), (q1_needed, .inl (C 0, 4096, .inl t1_needed)), (q_nextOfJoy, .inl (C 0, 4096, .inl t_nextOfJoy)), (q1_gain, .inl (C 0, 4096, .inl t1_gain)), (q, .inr (3, [.ref q_layer, .ref q_size, .int u27_6, .ref q_topJoy, .ref q_firstOfJoy, .ref q_nextOfJoy, .ref q_firstOfGain, .ref q_nextOfGain])), (q_firstOfGain, .inl (C 0, 1189, .inl t_firstOfGain)), (q1, .inr (0, [.ref q1_weight, .ref q1_gain, .ref q1_joy, .ref q1_barred, .ref q1_needed, .int t1_sets, .int t1_limit, .int t1_mustSet, .int t1_neverSet])), (q1_joy, .inl (C 0, 4096, .inl t1_joy)), (q_topJoy, .inl (C 0, 2378, .inl u27_7)), (q_size, .inl (C 0, 2378, .inl u27_8)), (q_layer, .inl (C 0, 4096, .inl u27_9)), (q_nextOfGain, .inl (C 0, 4096, .inl t_nextOfGain))] := hD
        refine lv_iinc (v := x3 + (-1)) (lv' := [(3, .int (x3 + (-1))), (0, .ref q), (1, .ref q1)]) hx hb dX3_build_30 hl (k := 2) rfl rfl (by decide) rfl (fun ls hl => ?_)
        refine lv_goto (tgt := 20) hx hb dX3_build_33 (by decide) ?_
        have hl9 := lv_sub (l' := [(0, .ref q), (1, .ref q1), (3, .int (x3 + (-1)))]) hl [1, 2, 0] rfl
        have hP9 := hP.sub (ws' := [(q, .inr (3, [.ref q_layer, .ref q_size, .int u27_6, .ref q_topJoy, .ref q_firstOfJoy, .ref q_nextOfJoy, .ref q_firstOfGain, .ref q_nextOfGain])), (q_firstOfJoy, .inl (C 0, 1189, .inl t_firstOfJoy)), (q1, .inr (0, [.ref q1_weight, .ref q1_gain, .ref q1_joy, .ref q1_barred, .ref q1_needed, .int t1_sets, .int t1_limit, .int t1_mustSet, .int t1_neverSet])), (q_layer, .inl (C 0, 4096, .inl u27_9)), (q1_weight, .inl (C 0, 4096, .inl t1_weight)), (q1_barred, .inl (C 0, 4096, .inl t1_barred)), (q1_needed, .inl (C 0, 4096, .inl t1_needed)), (q1_joy, .inl (C 0, 4096, .inl t1_joy)), (q_nextOfJoy, .inl (C 0, 4096, .inl t_nextOfJoy)), (q_firstOfGain, .inl (C 0, 1189, .inl t_firstOfGain)), (q1_gain, .inl (C 0, 4096, .inl t1_gain)), (q_nextOfGain, .inl (C 0, 4096, .inl t_nextOfGain)), (q_topJoy, .inl (C 0, 2378, .inl u27_7)), (q_size, .inl (C 0, 2378, .inl u27_8))]) [6, 0, 8, 12, 1, 2, 3, 9, 4, 7, 5, 13, 10, 11] rfl
        have hD9 := hD.sub (ws' := [(q, .inr (3, [.ref q_layer, .ref q_size, .int u27_6, .ref q_topJoy, .ref q_firstOfJoy, .ref q_nextOfJoy, .ref q_firstOfGain, .ref q_nextOfGain])), (q_firstOfJoy, .inl (C 0, 1189, .inl t_firstOfJoy)), (q1, .inr (0, [.ref q1_weight, .ref q1_gain, .ref q1_joy, .ref q1_barred, .ref q1_needed, .int t1_sets, .int t1_limit, .int t1_mustSet, .int t1_neverSet])), (q_layer, .inl (C 0, 4096, .inl u27_9)), (q1_weight, .inl (C 0, 4096, .inl t1_weight)), (q1_barred, .inl (C 0, 4096, .inl t1_barred)), (q1_needed, .inl (C 0, 4096, .inl t1_needed)), (q1_joy, .inl (C 0, 4096, .inl t1_joy)), (q_nextOfJoy, .inl (C 0, 4096, .inl t_nextOfJoy)), (q_firstOfGain, .inl (C 0, 1189, .inl t_firstOfGain)), (q1_gain, .inl (C 0, 4096, .inl t1_gain)), (q_nextOfGain, .inl (C 0, 4096, .inl t_nextOfGain)), (q_topJoy, .inl (C 0, 2378, .inl u27_7)), (q_size, .inl (C 0, 2378, .inl u27_8))]) [6, 0, 8, 12, 1, 2, 3, 9, 4, 7, 5, 13, 10, 11] (by decide) rfl
        exact ih (x3 + (-1)) u27_6 u27_9 u27_7 u27_8 H locs ls hl9 hP9 hD9 hS hwp
  unfold wp_X3_build at hwp
  obtain ⟨H, hH⟩ : ∃ H, H = s.heap := ⟨_, rfl⟩
  obtain ⟨locs, hlo⟩ : ∃ z : List Loc, z = [] := ⟨_, rfl⟩
  have hP : va_P D vwCl [(q, .inr (3, [.ref q_layer, .ref q_size, .int t_count, .ref q_topJoy, .ref q_firstOfJoy, .ref q_nextOfJoy, .ref q_firstOfGain, .ref q_nextOfGain])), (q_firstOfJoy, .inl (C 0, 1189, .inl t_firstOfJoy)), (q1, .inr (0, [.ref q1_weight, .ref q1_gain, .ref q1_joy, .ref q1_barred, .ref q1_needed, .int t1_sets, .int t1_limit, .int t1_mustSet, .int t1_neverSet])), (q_layer, .inl (C 0, 4096, .inl t_layer)), (q1_weight, .inl (C 0, 4096, .inl t1_weight)), (q1_barred, .inl (C 0, 4096, .inl t1_barred)), (q1_needed, .inl (C 0, 4096, .inl t1_needed)), (q1_joy, .inl (C 0, 4096, .inl t1_joy)), (q_nextOfJoy, .inl (C 0, 4096, .inl t_nextOfJoy)), (q_firstOfGain, .inl (C 0, 1189, .inl t_firstOfGain)), (q1_gain, .inl (C 0, 4096, .inl t1_gain)), (q_nextOfGain, .inl (C 0, 4096, .inl t_nextOfGain)), (q_topJoy, .inl (C 0, 2378, .inl t_topJoy)), (q_size, .inl (C 0, 2378, .inl t_size))] H := by rw [hH]; exact hP
  have hD : va_D A [(q, .inr (3, [.ref q_layer, .ref q_size, .int t_count, .ref q_topJoy, .ref q_firstOfJoy, .ref q_nextOfJoy, .ref q_firstOfGain, .ref q_nextOfGain])), (q_firstOfJoy, .inl (C 0, 1189, .inl t_firstOfJoy)), (q1, .inr (0, [.ref q1_weight, .ref q1_gain, .ref q1_joy, .ref q1_barred, .ref q1_needed, .int t1_sets, .int t1_limit, .int t1_mustSet, .int t1_neverSet])), (q_layer, .inl (C 0, 4096, .inl t_layer)), (q1_weight, .inl (C 0, 4096, .inl t1_weight)), (q1_barred, .inl (C 0, 4096, .inl t1_barred)), (q1_needed, .inl (C 0, 4096, .inl t1_needed)), (q1_joy, .inl (C 0, 4096, .inl t1_joy)), (q_nextOfJoy, .inl (C 0, 4096, .inl t_nextOfJoy)), (q_firstOfGain, .inl (C 0, 1189, .inl t_firstOfGain)), (q1_gain, .inl (C 0, 4096, .inl t1_gain)), (q_nextOfGain, .inl (C 0, 4096, .inl t_nextOfGain)), (q_topJoy, .inl (C 0, 2378, .inl t_topJoy)), (q_size, .inl (C 0, 2378, .inl t_size))] := hD
  have hS : va_S A s.heap H locs := by rw [hH, hlo]; exact hS
  suffices K : W p l e (headSpec ws_X3_build rm_X3_build).room s m ([.ref q, .ref q1, .int p2] : List Value).toArray below meth c H locs 0 0 (MQ below (q_X3_build D C q q_layer q_size q_topJoy q_firstOfJoy q_nextOfJoy q_firstOfGain q_nextOfGain q1 q1_weight q1_gain q1_joy q1_barred q1_needed t1_sets t1_limit t1_mustSet t1_neverSet t1_weight t1_barred t1_needed t1_joy t1_gain Q A) ([.ref q, .ref q1, .int p2] : List Value).toArray s 0 0 A) (F0 m 0 ls []) from by rw [hH, hlo] at K; exact K
  refine lv_aload_n hx hb dX3_build_0 rfl (lv_at hl 0 rfl) ?_
  refine lv_iconst (v := 0) hx hb dX3_build_1 (by decide) ?_
  refine va_put (D := D) (ci := 3) (v := .int (0 : Int32)) (ty := .int) (C := RX3) (T := TX3) (N := 8) hx hb hts iwX3 tyX3 tyX3_ok nmX3 hown hK hP hD hS 0 rfl rfl 2 (by decide) (hts (.fieldLink RX3 33 "ParetoDesk$Layers" "count" "I") wd_354) (fun _ h9 => h9) rfl (by decide +kernel) rfl rfl (Nat.le_of_ble_eq_true rfl) dX3_build_2 (fun H locs hP hD hS => ?_)
  have hP : va_P D vwCl [(q, .inr (3, [.ref q_layer, .ref q_size, .int (0 : Int32), .ref q_topJoy, .ref q_firstOfJoy, .ref q_nextOfJoy, .ref q_firstOfGain, .ref q_nextOfGain])), (q_firstOfJoy, .inl (C 0, 1189, .inl t_firstOfJoy)), (q1, .inr (0, [.ref q1_weight, .ref q1_gain, .ref q1_joy, .ref q1_barred, .ref q1_needed, .int t1_sets, .int t1_limit, .int t1_mustSet, .int t1_neverSet])), (q_layer, .inl (C 0, 4096, .inl t_layer)), (q1_weight, .inl (C 0, 4096, .inl t1_weight)), (q1_barred, .inl (C 0, 4096, .inl t1_barred)), (q1_needed, .inl (C 0, 4096, .inl t1_needed)), (q1_joy, .inl (C 0, 4096, .inl t1_joy)), (q_nextOfJoy, .inl (C 0, 4096, .inl t_nextOfJoy)), (q_firstOfGain, .inl (C 0, 1189, .inl t_firstOfGain)), (q1_gain, .inl (C 0, 4096, .inl t1_gain)), (q_nextOfGain, .inl (C 0, 4096, .inl t_nextOfGain)), (q_topJoy, .inl (C 0, 2378, .inl t_topJoy)), (q_size, .inl (C 0, 2378, .inl t_size))] H := hP
  have hD : va_D A [(q, .inr (3, [.ref q_layer, .ref q_size, .int (0 : Int32), .ref q_topJoy, .ref q_firstOfJoy, .ref q_nextOfJoy, .ref q_firstOfGain, .ref q_nextOfGain])), (q_firstOfJoy, .inl (C 0, 1189, .inl t_firstOfJoy)), (q1, .inr (0, [.ref q1_weight, .ref q1_gain, .ref q1_joy, .ref q1_barred, .ref q1_needed, .int t1_sets, .int t1_limit, .int t1_mustSet, .int t1_neverSet])), (q_layer, .inl (C 0, 4096, .inl t_layer)), (q1_weight, .inl (C 0, 4096, .inl t1_weight)), (q1_barred, .inl (C 0, 4096, .inl t1_barred)), (q1_needed, .inl (C 0, 4096, .inl t1_needed)), (q1_joy, .inl (C 0, 4096, .inl t1_joy)), (q_nextOfJoy, .inl (C 0, 4096, .inl t_nextOfJoy)), (q_firstOfGain, .inl (C 0, 1189, .inl t_firstOfGain)), (q1_gain, .inl (C 0, 4096, .inl t1_gain)), (q_nextOfGain, .inl (C 0, 4096, .inl t_nextOfGain)), (q_topJoy, .inl (C 0, 2378, .inl t_topJoy)), (q_size, .inl (C 0, 2378, .inl t_size))] := hD
  refine lv_aload_n hx hb dX3_build_5 rfl (lv_at hl 0 rfl) ?_
  refine lv_aload_n hx hb dX3_build_6 rfl (lv_at hl 1 rfl) ?_
  refine lv_iload_n hx hb dX3_build_7 rfl (lv_at hl 2 rfl) ?_
  have hPc := hP.sub (ws' := [(q, .inr (3, [.ref q_layer, .ref q_size, .int (0 : Int32), .ref q_topJoy, .ref q_firstOfJoy, .ref q_nextOfJoy, .ref q_firstOfGain, .ref q_nextOfGain])), (q_firstOfJoy, .inl (C 0, 1189, .inl t_firstOfJoy)), (q1, .inr (0, [.ref q1_weight, .ref q1_gain, .ref q1_joy, .ref q1_barred, .ref q1_needed, .int t1_sets, .int t1_limit, .int t1_mustSet, .int t1_neverSet])), (q_layer, .inl (C 0, 4096, .inl t_layer)), (q1_weight, .inl (C 0, 4096, .inl t1_weight)), (q1_barred, .inl (C 0, 4096, .inl t1_barred)), (q1_needed, .inl (C 0, 4096, .inl t1_needed)), (q1_joy, .inl (C 0, 4096, .inl t1_joy)), (q_nextOfJoy, .inl (C 0, 4096, .inl t_nextOfJoy))]) [0, 1, 2, 3, 4, 5, 6, 7, 8] rfl
  have hDc := hD.sub (ws' := [(q, .inr (3, [.ref q_layer, .ref q_size, .int (0 : Int32), .ref q_topJoy, .ref q_firstOfJoy, .ref q_nextOfJoy, .ref q_firstOfGain, .ref q_nextOfGain])), (q_firstOfJoy, .inl (C 0, 1189, .inl t_firstOfJoy)), (q1, .inr (0, [.ref q1_weight, .ref q1_gain, .ref q1_joy, .ref q1_barred, .ref q1_needed, .int t1_sets, .int t1_limit, .int t1_mustSet, .int t1_neverSet])), (q_layer, .inl (C 0, 4096, .inl t_layer)), (q1_weight, .inl (C 0, 4096, .inl t1_weight)), (q1_barred, .inl (C 0, 4096, .inl t1_barred)), (q1_needed, .inl (C 0, 4096, .inl t1_needed)), (q1_joy, .inl (C 0, 4096, .inl t1_joy)), (q_nextOfJoy, .inl (C 0, 4096, .inl t_nextOfJoy))]) [0, 1, 2, 3, 4, 5, 6, 7, 8] (by decide) rfl
  have hFc := va_free (wc := [(q, .inr (3, [.ref q_layer, .ref q_size, .int (0 : Int32), .ref q_topJoy, .ref q_firstOfJoy, .ref q_nextOfJoy, .ref q_firstOfGain, .ref q_nextOfGain])), (q_firstOfJoy, .inl (C 0, 1189, .inl t_firstOfJoy)), (q1, .inr (0, [.ref q1_weight, .ref q1_gain, .ref q1_joy, .ref q1_barred, .ref q1_needed, .int t1_sets, .int t1_limit, .int t1_mustSet, .int t1_neverSet])), (q_layer, .inl (C 0, 4096, .inl t_layer)), (q1_weight, .inl (C 0, 4096, .inl t1_weight)), (q1_barred, .inl (C 0, 4096, .inl t1_barred)), (q1_needed, .inl (C 0, 4096, .inl t1_needed)), (q1_joy, .inl (C 0, 4096, .inl t1_joy)), (q_nextOfJoy, .inl (C 0, 4096, .inl t_nextOfJoy))]) hD hS hA [0, 1, 2, 3, 4, 5, 6, 7, 8] rfl
  refine va_callv (va_runV (As := [.ref q1, .int p2]) (rest := []) ⟨hx, hb, hml, hown, hts⟩ (met_X3_sortByJoy l D C q q_layer q_size q_topJoy q_firstOfJoy q_nextOfJoy q_firstOfGain q_nextOfGain q1 q1_weight q1_gain q1_joy q1_barred q1_needed p2 (0 : Int32) t_firstOfJoy t1_sets t1_limit t1_mustSet t1_neverSet t_layer t1_weight t1_barred t1_needed t1_joy t_nextOfJoy H.size _ hwp) (cwV 2 hts gc_X3_37 rfl rfl rfl (by decide +kernel) ⟨Nat.le_of_ble_eq_true rfl, Nat.le_of_ble_eq_true rfl⟩) ⟨fun a U g mk q => by obtain ⟨q0, q1, qP, qK, qD⟩ := q; exact ⟨q0, q1, qP, va_K.moved (u := U) (U := U.calling g mk a) (Vm.Alike.refl U.vm) qK, qD⟩, va_recv hK hPc (ci := 3) (q0 := 0) rfl rfl, fun U hU hW => ⟨rfl, by rw [hU], by rw [hU]; exact hPc, va_K.moved hW.alike hK, hDc.weaken (fun _ _ _ _ => trivial)⟩⟩ rfl rfl hl.1 rfl (lv_room (Nat.le_of_ble_eq_true rfl)) dX3_build_8 ⟨Nat.zero_le _, Nat.zero_le _⟩) hS (fun q _ h => hFc q h) hFc (fun u t H1 locs ht hvm hwp hB hz1 hk1 hS => ?_)
  obtain ⟨u8_1, u8_2, u8_3⟩ := u
  obtain ⟨hP1, -, hD1⟩ := hB
  rw [ht] at hP1
  obtain ⟨hP, hD⟩ := va_join (wr := [(q_firstOfGain, .inl (C 0, 1189, .inl t_firstOfGain)), (q1_gain, .inl (C 0, 4096, .inl t1_gain)), (q_nextOfGain, .inl (C 0, 4096, .inl t_nextOfGain)), (q_topJoy, .inl (C 0, 2378, .inl t_topJoy)), (q_size, .inl (C 0, 2378, .inl t_size))]) (w1 := [(q, .inr (3, [.ref q_layer, .ref q_size, .int (0 : Int32), .ref q_topJoy, .ref q_firstOfJoy, .ref q_nextOfJoy, .ref q_firstOfGain, .ref q_nextOfGain])), (q_firstOfJoy, .inl (C 0, 1189, .inl u8_1)), (q1, .inr (0, [.ref q1_weight, .ref q1_gain, .ref q1_joy, .ref q1_barred, .ref q1_needed, .int t1_sets, .int t1_limit, .int t1_mustSet, .int t1_neverSet])), (q_layer, .inl (C 0, 4096, .inl u8_2)), (q1_weight, .inl (C 0, 4096, .inl t1_weight)), (q1_barred, .inl (C 0, 4096, .inl t1_barred)), (q1_needed, .inl (C 0, 4096, .inl t1_needed)), (q1_joy, .inl (C 0, 4096, .inl t1_joy)), (q_nextOfJoy, .inl (C 0, 4096, .inl u8_3))]) hP hD [0, 1, 2, 3, 4, 5, 6, 7, 8] [9, 10, 11, 12, 13] rfl rfl (by decide) (by decide) hk1 hFc hP1 hD1
  generalize H1 = H at hP hS ⊢
  have hP : va_P D vwCl [(q_firstOfGain, .inl (C 0, 1189, .inl t_firstOfGain)), (q1_gain, .inl (C 0, 4096, .inl t1_gain)), (q_nextOfGain, .inl (C 0, 4096, .inl t_nextOfGain)), (q_topJoy, .inl (C 0, 2378, .inl t_topJoy)), (q_size, .inl (C 0, 2378, .inl t_size)), (q, .inr (3, [.ref q_layer, .ref q_size, .int (0 : Int32), .ref q_topJoy, .ref q_firstOfJoy, .ref q_nextOfJoy, .ref q_firstOfGain, .ref q_nextOfGain])), (q_firstOfJoy, .inl (C 0, 1189, .inl u8_1)), (q1, .inr (0, [.ref q1_weight, .ref q1_gain, .ref q1_joy, .ref q1_barred, .ref q1_needed, .int t1_sets, .int t1_limit, .int t1_mustSet, .int t1_neverSet])), (q_layer, .inl (C 0, 4096, .inl u8_2)), (q1_weight, .inl (C 0, 4096, .inl t1_weight)), (q1_barred, .inl (C 0, 4096, .inl t1_barred)), (q1_needed, .inl (C 0, 4096, .inl t1_needed)), (q1_joy, .inl (C 0, 4096, .inl t1_joy)), (q_nextOfJoy, .inl (C 0, 4096, .inl u8_3))] H := hP
  have hD : va_D A [(q_firstOfGain, .inl (C 0, 1189, .inl t_firstOfGain)), (q1_gain, .inl (C 0, 4096, .inl t1_gain)), (q_nextOfGain, .inl (C 0, 4096, .inl t_nextOfGain)), (q_topJoy, .inl (C 0, 2378, .inl t_topJoy)), (q_size, .inl (C 0, 2378, .inl t_size)), (q, .inr (3, [.ref q_layer, .ref q_size, .int (0 : Int32), .ref q_topJoy, .ref q_firstOfJoy, .ref q_nextOfJoy, .ref q_firstOfGain, .ref q_nextOfGain])), (q_firstOfJoy, .inl (C 0, 1189, .inl u8_1)), (q1, .inr (0, [.ref q1_weight, .ref q1_gain, .ref q1_joy, .ref q1_barred, .ref q1_needed, .int t1_sets, .int t1_limit, .int t1_mustSet, .int t1_neverSet])), (q_layer, .inl (C 0, 4096, .inl u8_2)), (q1_weight, .inl (C 0, 4096, .inl t1_weight)), (q1_barred, .inl (C 0, 4096, .inl t1_barred)), (q1_needed, .inl (C 0, 4096, .inl t1_needed)), (q1_joy, .inl (C 0, 4096, .inl t1_joy)), (q_nextOfJoy, .inl (C 0, 4096, .inl u8_3))] := hD
  refine lv_aload_n hx hb dX3_build_11 rfl (lv_at hl 0 rfl) ?_
  refine lv_aload_n hx hb dX3_build_12 rfl (lv_at hl 1 rfl) ?_
  have hPc := hP.sub (ws' := [(q, .inr (3, [.ref q_layer, .ref q_size, .int (0 : Int32), .ref q_topJoy, .ref q_firstOfJoy, .ref q_nextOfJoy, .ref q_firstOfGain, .ref q_nextOfGain])), (q_firstOfGain, .inl (C 0, 1189, .inl t_firstOfGain)), (q_firstOfJoy, .inl (C 0, 1189, .inl u8_1)), (q1, .inr (0, [.ref q1_weight, .ref q1_gain, .ref q1_joy, .ref q1_barred, .ref q1_needed, .int t1_sets, .int t1_limit, .int t1_mustSet, .int t1_neverSet])), (q1_gain, .inl (C 0, 4096, .inl t1_gain)), (q_nextOfGain, .inl (C 0, 4096, .inl t_nextOfGain)), (q_nextOfJoy, .inl (C 0, 4096, .inl u8_3))]) [5, 0, 6, 7, 1, 2, 13] rfl
  have hDc := hD.sub (ws' := [(q, .inr (3, [.ref q_layer, .ref q_size, .int (0 : Int32), .ref q_topJoy, .ref q_firstOfJoy, .ref q_nextOfJoy, .ref q_firstOfGain, .ref q_nextOfGain])), (q_firstOfGain, .inl (C 0, 1189, .inl t_firstOfGain)), (q_firstOfJoy, .inl (C 0, 1189, .inl u8_1)), (q1, .inr (0, [.ref q1_weight, .ref q1_gain, .ref q1_joy, .ref q1_barred, .ref q1_needed, .int t1_sets, .int t1_limit, .int t1_mustSet, .int t1_neverSet])), (q1_gain, .inl (C 0, 4096, .inl t1_gain)), (q_nextOfGain, .inl (C 0, 4096, .inl t_nextOfGain)), (q_nextOfJoy, .inl (C 0, 4096, .inl u8_3))]) [5, 0, 6, 7, 1, 2, 13] (by decide) rfl
  have hFc := va_free (wc := [(q, .inr (3, [.ref q_layer, .ref q_size, .int (0 : Int32), .ref q_topJoy, .ref q_firstOfJoy, .ref q_nextOfJoy, .ref q_firstOfGain, .ref q_nextOfGain])), (q_firstOfGain, .inl (C 0, 1189, .inl t_firstOfGain)), (q_firstOfJoy, .inl (C 0, 1189, .inl u8_1)), (q1, .inr (0, [.ref q1_weight, .ref q1_gain, .ref q1_joy, .ref q1_barred, .ref q1_needed, .int t1_sets, .int t1_limit, .int t1_mustSet, .int t1_neverSet])), (q1_gain, .inl (C 0, 4096, .inl t1_gain)), (q_nextOfGain, .inl (C 0, 4096, .inl t_nextOfGain)), (q_nextOfJoy, .inl (C 0, 4096, .inl u8_3))]) hD hS hA [5, 0, 6, 7, 1, 2, 13] rfl
  refine va_callv (va_runV (As := [.ref q1]) (rest := []) ⟨hx, hb, hml, hown, hts⟩ (met_X3_sortByGain l D C q q_layer q_size q_topJoy q_firstOfJoy q_nextOfJoy q_firstOfGain q_nextOfGain q1 q1_weight q1_gain q1_joy q1_barred q1_needed (0 : Int32) t_firstOfGain u8_1 t1_sets t1_limit t1_mustSet t1_neverSet t1_gain t_nextOfGain u8_3 H.size _ hwp) (cwV 1 hts gc_X3_41 rfl rfl rfl (by decide +kernel) ⟨Nat.le_of_ble_eq_true rfl, Nat.le_of_ble_eq_true rfl⟩) ⟨fun a U g mk q => by obtain ⟨q0, q1, qP, qK, qD⟩ := q; exact ⟨q0, q1, qP, va_K.moved (u := U) (U := U.calling g mk a) (Vm.Alike.refl U.vm) qK, qD⟩, va_recv hK hPc (ci := 3) (q0 := 0) rfl rfl, fun U hU hW => ⟨rfl, by rw [hU], by rw [hU]; exact hPc, va_K.moved hW.alike hK, hDc.weaken (fun _ _ _ _ => trivial)⟩⟩ rfl rfl hl.1 rfl (lv_room (Nat.le_of_ble_eq_true rfl)) dX3_build_13 ⟨Nat.zero_le _, Nat.zero_le _⟩) hS (fun q _ h => hFc q h) hFc (fun u t H1 locs ht hvm hwp hB hz1 hk1 hS => ?_)
  obtain ⟨u13_4, u13_5⟩ := u
  obtain ⟨hP1, -, hD1⟩ := hB
  rw [ht] at hP1
  obtain ⟨hP, hD⟩ := va_join (wr := [(q_topJoy, .inl (C 0, 2378, .inl t_topJoy)), (q_size, .inl (C 0, 2378, .inl t_size)), (q_layer, .inl (C 0, 4096, .inl u8_2)), (q1_weight, .inl (C 0, 4096, .inl t1_weight)), (q1_barred, .inl (C 0, 4096, .inl t1_barred)), (q1_needed, .inl (C 0, 4096, .inl t1_needed)), (q1_joy, .inl (C 0, 4096, .inl t1_joy))]) (w1 := [(q, .inr (3, [.ref q_layer, .ref q_size, .int (0 : Int32), .ref q_topJoy, .ref q_firstOfJoy, .ref q_nextOfJoy, .ref q_firstOfGain, .ref q_nextOfGain])), (q_firstOfGain, .inl (C 0, 1189, .inl u13_4)), (q_firstOfJoy, .inl (C 0, 1189, .inl u8_1)), (q1, .inr (0, [.ref q1_weight, .ref q1_gain, .ref q1_joy, .ref q1_barred, .ref q1_needed, .int t1_sets, .int t1_limit, .int t1_mustSet, .int t1_neverSet])), (q1_gain, .inl (C 0, 4096, .inl t1_gain)), (q_nextOfGain, .inl (C 0, 4096, .inl u13_5)), (q_nextOfJoy, .inl (C 0, 4096, .inl u8_3))]) hP hD [5, 0, 6, 7, 1, 2, 13] [3, 4, 8, 9, 10, 11, 12] rfl rfl (by decide) (by decide) hk1 hFc hP1 hD1
  generalize H1 = H at hP hS ⊢
  have hP : va_P D vwCl [(q_topJoy, .inl (C 0, 2378, .inl t_topJoy)), (q_size, .inl (C 0, 2378, .inl t_size)), (q_layer, .inl (C 0, 4096, .inl u8_2)), (q1_weight, .inl (C 0, 4096, .inl t1_weight)), (q1_barred, .inl (C 0, 4096, .inl t1_barred)), (q1_needed, .inl (C 0, 4096, .inl t1_needed)), (q1_joy, .inl (C 0, 4096, .inl t1_joy)), (q, .inr (3, [.ref q_layer, .ref q_size, .int (0 : Int32), .ref q_topJoy, .ref q_firstOfJoy, .ref q_nextOfJoy, .ref q_firstOfGain, .ref q_nextOfGain])), (q_firstOfGain, .inl (C 0, 1189, .inl u13_4)), (q_firstOfJoy, .inl (C 0, 1189, .inl u8_1)), (q1, .inr (0, [.ref q1_weight, .ref q1_gain, .ref q1_joy, .ref q1_barred, .ref q1_needed, .int t1_sets, .int t1_limit, .int t1_mustSet, .int t1_neverSet])), (q1_gain, .inl (C 0, 4096, .inl t1_gain)), (q_nextOfGain, .inl (C 0, 4096, .inl u13_5)), (q_nextOfJoy, .inl (C 0, 4096, .inl u8_3))] H := hP
  have hD : va_D A [(q_topJoy, .inl (C 0, 2378, .inl t_topJoy)), (q_size, .inl (C 0, 2378, .inl t_size)), (q_layer, .inl (C 0, 4096, .inl u8_2)), (q1_weight, .inl (C 0, 4096, .inl t1_weight)), (q1_barred, .inl (C 0, 4096, .inl t1_barred)), (q1_needed, .inl (C 0, 4096, .inl t1_needed)), (q1_joy, .inl (C 0, 4096, .inl t1_joy)), (q, .inr (3, [.ref q_layer, .ref q_size, .int (0 : Int32), .ref q_topJoy, .ref q_firstOfJoy, .ref q_nextOfJoy, .ref q_firstOfGain, .ref q_nextOfGain])), (q_firstOfGain, .inl (C 0, 1189, .inl u13_4)), (q_firstOfJoy, .inl (C 0, 1189, .inl u8_1)), (q1, .inr (0, [.ref q1_weight, .ref q1_gain, .ref q1_joy, .ref q1_barred, .ref q1_needed, .int t1_sets, .int t1_limit, .int t1_mustSet, .int t1_neverSet])), (q1_gain, .inl (C 0, 4096, .inl t1_gain)), (q_nextOfGain, .inl (C 0, 4096, .inl u13_5)), (q_nextOfJoy, .inl (C 0, 4096, .inl u8_3))] := hD
  refine lv_sipush (v := 1188) hx hb dX3_build_16 (by decide) ?_
  refine lv_istore_n (lv' := [(3, .int (1188 : Int32)), (0, .ref q), (1, .ref q1), (2, .int p2)]) hx hb dX3_build_19 rfl hl (by decide) rfl (fun ls hl => ?_)
  have hl9 := lv_sub (l' := [(0, .ref q), (1, .ref q1), (3, .int (1188 : Int32))]) hl [1, 2, 0] rfl
  have hP9 := hP.sub (ws' := [(q, .inr (3, [.ref q_layer, .ref q_size, .int (0 : Int32), .ref q_topJoy, .ref q_firstOfJoy, .ref q_nextOfJoy, .ref q_firstOfGain, .ref q_nextOfGain])), (q_firstOfJoy, .inl (C 0, 1189, .inl u8_1)), (q1, .inr (0, [.ref q1_weight, .ref q1_gain, .ref q1_joy, .ref q1_barred, .ref q1_needed, .int t1_sets, .int t1_limit, .int t1_mustSet, .int t1_neverSet])), (q_layer, .inl (C 0, 4096, .inl u8_2)), (q1_weight, .inl (C 0, 4096, .inl t1_weight)), (q1_barred, .inl (C 0, 4096, .inl t1_barred)), (q1_needed, .inl (C 0, 4096, .inl t1_needed)), (q1_joy, .inl (C 0, 4096, .inl t1_joy)), (q_nextOfJoy, .inl (C 0, 4096, .inl u8_3)), (q_firstOfGain, .inl (C 0, 1189, .inl u13_4)), (q1_gain, .inl (C 0, 4096, .inl t1_gain)), (q_nextOfGain, .inl (C 0, 4096, .inl u13_5)), (q_topJoy, .inl (C 0, 2378, .inl t_topJoy)), (q_size, .inl (C 0, 2378, .inl t_size))]) [7, 9, 10, 2, 3, 4, 5, 6, 13, 8, 11, 12, 0, 1] rfl
  have hD9 := hD.sub (ws' := [(q, .inr (3, [.ref q_layer, .ref q_size, .int (0 : Int32), .ref q_topJoy, .ref q_firstOfJoy, .ref q_nextOfJoy, .ref q_firstOfGain, .ref q_nextOfGain])), (q_firstOfJoy, .inl (C 0, 1189, .inl u8_1)), (q1, .inr (0, [.ref q1_weight, .ref q1_gain, .ref q1_joy, .ref q1_barred, .ref q1_needed, .int t1_sets, .int t1_limit, .int t1_mustSet, .int t1_neverSet])), (q_layer, .inl (C 0, 4096, .inl u8_2)), (q1_weight, .inl (C 0, 4096, .inl t1_weight)), (q1_barred, .inl (C 0, 4096, .inl t1_barred)), (q1_needed, .inl (C 0, 4096, .inl t1_needed)), (q1_joy, .inl (C 0, 4096, .inl t1_joy)), (q_nextOfJoy, .inl (C 0, 4096, .inl u8_3)), (q_firstOfGain, .inl (C 0, 1189, .inl u13_4)), (q1_gain, .inl (C 0, 4096, .inl t1_gain)), (q_nextOfGain, .inl (C 0, 4096, .inl u13_5)), (q_topJoy, .inl (C 0, 2378, .inl t_topJoy)), (q_size, .inl (C 0, 2378, .inl t_size))]) [7, 9, 10, 2, 3, 4, 5, 6, 13, 8, 11, 12, 0, 1] (by decide) rfl
  obtain ⟨nn9, hwp⟩ := hwp
  refine HL20 u8_1 u8_3 u13_4 u13_5 nn9 (1188 : Int32) (0 : Int32) u8_2 t_topJoy t_size H locs ls hl9 hP9 hD9 hS hwp
abbrev ws_X5_fail : List Cond := .code yX5_fail cX5_fail 2 (some .boolean) :: WALL
abbrev rm_X5_fail : Room := { frames := 0, cells := 0, slots := 0, locals := 0 }
abbrev w_X5_fail (C : Nat → ClassId) (q : Nat) (q_draft : Nat) (q_text : Nat) (t_code : Int32) (t_place : Int32) (t_length : Int32) (t_kind : Int32) (t_start : Int32) (t_next : Int32) (t_value : Int32) : va_W := [(q, .inr (5, [.ref q_draft, .int t_code, .int t_place, .ref q_text, .int t_length, .int t_kind, .int t_start, .int t_next, .int t_value]))]
abbrev q_X5_fail (D : va_G) (C : Nat → ClassId) (q : Nat) (q_draft : Nat) (q_text : Nat) (t_length : Int32) (t_kind : Int32) (t_start : Int32) (t_next : Int32) (t_value : Int32) (Q : Int32 → Int32 → Int32 → Prop) (A : Nat → Prop) : Array Value → State → Outcome → State → Prop := va_Qi (fun (r : Int32) (u : Int32 × Int32) => Q r u.1 u.2) (fun (u : Int32 × Int32) (t : State) => va_P D vwCl (w_X5_fail C q q_draft q_text u.1 u.2 t_length t_kind t_start t_next t_value) t.heap ∧ va_K D vwCl (tyL C) t ∧ va_D A (w_X5_fail C q q_draft q_text u.1 u.2 t_length t_kind t_start t_next t_value)) A
set_option maxHeartbeats 4000000 in
set_option maxRecDepth 100000 in
theorem met_X5_fail (l : Launch) (D : va_G) (C : Nat → ClassId) (q : Nat) (q_draft : Nat) (q_text : Nat) (p1 : Int32) (t_code : Int32) (t_place : Int32) (t_length : Int32) (t_kind : Int32) (t_start : Int32) (t_next : Int32) (t_value : Int32) (sz : Nat) (Q : Int32 → Int32 → Int32 → Prop) (hwp : wp_X5_fail p1 t_code t_place t_start Q) : Met l yX5_fail ws_X5_fail rm_X5_fail (va_Pc [.ref q, .int p1] (fun U => U.heap.size = sz ∧ va_P D vwCl (w_X5_fail C q q_draft q_text t_code t_place t_length t_kind t_start t_next t_value) U.heap ∧ va_K D vwCl (tyL C) U ∧ va_D (fun _ => True) (w_X5_fail C q q_draft q_text t_code t_place t_length t_kind t_start t_next t_value))) (q_X5_fail D C q q_draft q_text t_length t_kind t_start t_next t_value Q (va_A (w_X5_fail C q q_draft q_text t_code t_place t_length t_kind t_start t_next t_value) sz)) 0 0 (va_A (w_X5_fail C q q_draft q_text t_code t_place t_length t_kind t_start t_next t_value) sz) := by
  refine Met.ofW (cc := cX5_fail) (maxL := 2) (ret := (some .boolean)) (by decide) rfl ?_
  intro p e s m args below meth c s₁ B hml hv
  obtain ⟨rfl, hsz, hP, hK, hD0⟩ := hv
  have hx := B.exec
  have hb := B.bytes
  have hr := B.returns
  have hts : ∀ w ∈ WALL, w.before _ s = true := fun w h => atoms_spec (ws := ws_X5_fail) B.pre w (List.mem_cons_of_mem _ h)
  have hown : s.vm.findClass RX5 = some m.cls := findClass_of_methodNamed B.named
  have hlocks := B.notSynchronized
  subst hsz
  have hD := hD0.self (sz := s.heap.size)
  generalize hAe : va_A (w_X5_fail C q q_draft q_text t_code t_place t_length t_kind t_start t_next t_value) s.heap.size = A at hD ⊢
  have hA : ∀ q : Nat, s.heap.size ≤ q → A q := fun q h => by rw [← hAe]; exact Or.inr h
  have hS : va_S A s.heap s.heap [] := va_S.rf
  have hl := lv_entry ([.ref q, .int p1]) (n := 2) (Nat.le_of_ble_eq_true rfl)
  rw [lg_entry_eq]
  generalize (lg_sl ([.ref q, .int p1]) ++ List.replicate (2 - (lg_sl ([.ref q, .int p1])).length) Slot.unset).toArray = ls at hl ⊢
  have hl : lv_has ls 2 [(0, .ref q), (1, .int p1)] := hl
  unfold wp_X5_fail at hwp
  obtain ⟨H, hH⟩ : ∃ H, H = s.heap := ⟨_, rfl⟩
  obtain ⟨locs, hlo⟩ : ∃ z : List Loc, z = [] := ⟨_, rfl⟩
  have hP : va_P D vwCl [(q, .inr (5, [.ref q_draft, .int t_code, .int t_place, .ref q_text, .int t_length, .int t_kind, .int t_start, .int t_next, .int t_value]))] H := by rw [hH]; exact hP
  have hD : va_D A [(q, .inr (5, [.ref q_draft, .int t_code, .int t_place, .ref q_text, .int t_length, .int t_kind, .int t_start, .int t_next, .int t_value]))] := hD
  have hS : va_S A s.heap H locs := by rw [hH, hlo]; exact hS
  suffices K : W p l e (headSpec ws_X5_fail rm_X5_fail).room s m ([.ref q, .int p1] : List Value).toArray below meth c H locs 0 0 (MQ below (q_X5_fail D C q q_draft q_text t_length t_kind t_start t_next t_value Q A) ([.ref q, .int p1] : List Value).toArray s 0 0 A) (F0 m 0 ls []) from by rw [hH, hlo] at K; exact K
  refine lv_aload_n hx hb dX5_fail_0 rfl (lv_at hl 0 rfl) ?_
  refine lv_iload_n hx hb dX5_fail_1 rfl (lv_at hl 1 rfl) ?_
  refine va_put (D := D) (ci := 5) (v := .int p1) (ty := .int) (C := RX5) (T := TX5) (N := 9) hx hb hts iwX5 tyX5 tyX5_ok nmX5 hown hK hP hD hS 0 rfl rfl 1 (by decide) (hts (.fieldLink RX5 38 "ParetoDesk$Parser" "code" "I") wd_149) (fun _ h9 => h9) rfl (by decide +kernel) rfl rfl (Nat.le_of_ble_eq_true rfl) dX5_fail_2 (fun H locs hP hD hS => ?_)
  have hP : va_P D vwCl [(q, .inr (5, [.ref q_draft, .int p1, .int t_place, .ref q_text, .int t_length, .int t_kind, .int t_start, .int t_next, .int t_value]))] H := hP
  have hD : va_D A [(q, .inr (5, [.ref q_draft, .int p1, .int t_place, .ref q_text, .int t_length, .int t_kind, .int t_start, .int t_next, .int t_value]))] := hD
  refine lv_aload_n hx hb dX5_fail_5 rfl (lv_at hl 0 rfl) ?_
  refine lv_aload_n hx hb dX5_fail_6 rfl (lv_at hl 0 rfl) ?_
  refine va_get (D := D) (ci := 5) (v := .int t_start) (C := RX5) (T := TX5) (N := 9) hx hb hts iwX5 hown hK hP 0 rfl rfl 6 (by decide) (hts (.fieldLink RX5 57 "ParetoDesk$Parser" "start" "I") wd_156) (fun _ h9 => h9) rfl dX5_fail_7 ?_
  refine va_put (D := D) (ci := 5) (v := .int t_start) (ty := .int) (C := RX5) (T := TX5) (N := 9) hx hb hts iwX5 tyX5 tyX5_ok nmX5 hown hK hP hD hS 0 rfl rfl 2 (by decide) (hts (.fieldLink RX5 18 "ParetoDesk$Parser" "place" "I") wd_151) (fun _ h9 => h9) rfl (by decide +kernel) rfl rfl (Nat.le_of_ble_eq_true rfl) dX5_fail_10 (fun H locs hP hD hS => ?_)
  have hP : va_P D vwCl [(q, .inr (5, [.ref q_draft, .int p1, .int t_start, .ref q_text, .int t_length, .int t_kind, .int t_start, .int t_next, .int t_value]))] H := hP
  have hD : va_D A [(q, .inr (5, [.ref q_draft, .int p1, .int t_start, .ref q_text, .int t_length, .int t_kind, .int t_start, .int t_next, .int t_value]))] := hD
  refine lv_iconst (v := 0) hx hb dX5_fail_13 (by decide) ?_
  have hP9 := hP.sub (ws' := [(q, .inr (5, [.ref q_draft, .int p1, .int t_start, .ref q_text, .int t_length, .int t_kind, .int t_start, .int t_next, .int t_value]))]) [0] rfl
  have hD9 := hD.sub (ws' := [(q, .inr (5, [.ref q_draft, .int p1, .int t_start, .ref q_text, .int t_length, .int t_kind, .int t_start, .int t_next, .int t_value]))]) [0] (by decide) rfl
  exact W.zret (v := (0 : Int32)) (ty := .boolean) hx hb hr rfl (fun t ht hW => ⟨⟨(0 : Int32), (p1, t_start), rfl, hwp, by rw [ht]; exact hP9, va_K.moved hW.alike hK, hD9⟩, hS.F ht⟩) hS.2.2 dX5_fail_14
abbrev ws_X5_isLetter : List Cond := .code yX5_isLetter cX5_isLetter 1 (some .boolean) :: WALL
abbrev rm_X5_isLetter : Room := { frames := 0, cells := 0, slots := 0, locals := 0 }
abbrev w_X5_isLetter (C : Nat → ClassId) : va_W := []
abbrev q_X5_isLetter (D : va_G) (C : Nat → ClassId) (Q : Int32 → Prop) (A : Nat → Prop) : Array Value → State → Outcome → State → Prop := va_Qi (fun (r : Int32) (u : Unit) => Q r) (fun (u : Unit) (t : State) => va_P D vwCl (w_X5_isLetter C ) t.heap ∧ va_K D vwCl (tyL C) t ∧ va_D A (w_X5_isLetter C )) A
set_option maxHeartbeats 4000000 in
set_option maxRecDepth 100000 in
theorem met_X5_isLetter (l : Launch) (D : va_G) (C : Nat → ClassId) (p0 : Int32) (sz : Nat) (Q : Int32 → Prop) (hwp : wp_X5_isLetter p0 Q) : Met l yX5_isLetter ws_X5_isLetter rm_X5_isLetter (va_Pc [.int p0] (fun U => U.heap.size = sz ∧ va_P D vwCl (w_X5_isLetter C ) U.heap ∧ va_K D vwCl (tyL C) U ∧ va_D (fun _ => True) (w_X5_isLetter C ))) (q_X5_isLetter D C  Q (va_A (w_X5_isLetter C ) sz)) 0 0 (va_A (w_X5_isLetter C ) sz) := by
  refine Met.ofW (cc := cX5_isLetter) (maxL := 1) (ret := (some .boolean)) (by decide) rfl ?_
  intro p e s m args below meth c s₁ B hml hv
  obtain ⟨rfl, hsz, hP, hK, hD0⟩ := hv
  have hx := B.exec
  have hb := B.bytes
  have hr := B.returns
  have hts : ∀ w ∈ WALL, w.before _ s = true := fun w h => atoms_spec (ws := ws_X5_isLetter) B.pre w (List.mem_cons_of_mem _ h)
  have hown : s.vm.findClass RX5 = some m.cls := findClass_of_methodNamed B.named
  have hlocks := B.notSynchronized
  subst hsz
  have hD := hD0.self (sz := s.heap.size)
  generalize hAe : va_A (w_X5_isLetter C ) s.heap.size = A at hD ⊢
  have hA : ∀ q : Nat, s.heap.size ≤ q → A q := fun q h => by rw [← hAe]; exact Or.inr h
  have hS : va_S A s.heap s.heap [] := va_S.rf
  have hl := lv_entry ([.int p0]) (n := 1) (Nat.le_of_ble_eq_true rfl)
  rw [lg_entry_eq]
  generalize (lg_sl ([.int p0]) ++ List.replicate (1 - (lg_sl ([.int p0])).length) Slot.unset).toArray = ls at hl ⊢
  have hl : lv_has ls 1 [(0, .int p0)] := hl
  unfold wp_X5_isLetter at hwp
  obtain ⟨H, hH⟩ : ∃ H, H = s.heap := ⟨_, rfl⟩
  obtain ⟨locs, hlo⟩ : ∃ z : List Loc, z = [] := ⟨_, rfl⟩
  have hP : va_P D vwCl [] H := by rw [hH]; exact hP
  have hD : va_D A [] := hD
  have hS : va_S A s.heap H locs := by rw [hH, hlo]; exact hS
  suffices K : W p l e (headSpec ws_X5_isLetter rm_X5_isLetter).room s m ([.int p0] : List Value).toArray below meth c H locs 0 0 (MQ below (q_X5_isLetter D C Q A) ([.int p0] : List Value).toArray s 0 0 A) (F0 m 0 ls []) from by rw [hH, hlo] at K; exact K
  refine lv_iload_n hx hb dX5_isLetter_0 rfl (lv_at hl 0 rfl) ?_
  refine lv_bipush (v := 97) hx hb dX5_isLetter_1 (by decide) ?_
  refine lv_icmp_lt (tgt := 16) hx hb dX5_isLetter_3 (by decide) (fun c3 => ?_) (fun c3 => ?_)
  · have hwp := hwp.1 c3
    refine lv_iconst (v := 0) hx hb dX5_isLetter_16 (by decide) ?_
    have hP9 := hP.sub (ws' := []) [] rfl
    have hD9 := hD.sub (ws' := []) [] (by decide) rfl
    exact W.zret (v := (0 : Int32)) (ty := .boolean) hx hb hr rfl (fun t ht hW => ⟨⟨(0 : Int32), (), rfl, hwp, by rw [ht]; exact hP9, va_K.moved hW.alike hK, hD9⟩, hS.F ht⟩) hS.2.2 dX5_isLetter_17
  · have hwp := hwp.2 c3
    refine lv_iload_n hx hb dX5_isLetter_6 rfl (lv_at hl 0 rfl) ?_
    refine lv_bipush (v := 122) hx hb dX5_isLetter_7 (by decide) ?_
    refine lv_icmp_gt (tgt := 16) hx hb dX5_isLetter_9 (by decide) (fun c9 => ?_) (fun c9 => ?_)
    · have hwp := hwp.1 c9
      refine lv_iconst (v := 0) hx hb dX5_isLetter_16 (by decide) ?_
      have hP9 := hP.sub (ws' := []) [] rfl
      have hD9 := hD.sub (ws' := []) [] (by decide) rfl
      exact W.zret (v := (0 : Int32)) (ty := .boolean) hx hb hr rfl (fun t ht hW => ⟨⟨(0 : Int32), (), rfl, hwp, by rw [ht]; exact hP9, va_K.moved hW.alike hK, hD9⟩, hS.F ht⟩) hS.2.2 dX5_isLetter_17
    · have hwp := hwp.2 c9
      refine lv_iconst (v := 1) hx hb dX5_isLetter_12 (by decide) ?_
      refine lv_goto (tgt := 17) hx hb dX5_isLetter_13 (by decide) ?_
      have hP9 := hP.sub (ws' := []) [] rfl
      have hD9 := hD.sub (ws' := []) [] (by decide) rfl
      exact W.zret (v := (1 : Int32)) (ty := .boolean) hx hb hr rfl (fun t ht hW => ⟨⟨(1 : Int32), (), rfl, hwp, by rw [ht]; exact hP9, va_K.moved hW.alike hK, hD9⟩, hS.F ht⟩) hS.2.2 dX5_isLetter_17
abbrev ws_X5_isDigit : List Cond := .code yX5_isDigit cX5_isDigit 1 (some .boolean) :: WALL
abbrev rm_X5_isDigit : Room := { frames := 0, cells := 0, slots := 0, locals := 0 }
abbrev w_X5_isDigit (C : Nat → ClassId) : va_W := []
abbrev q_X5_isDigit (D : va_G) (C : Nat → ClassId) (Q : Int32 → Prop) (A : Nat → Prop) : Array Value → State → Outcome → State → Prop := va_Qi (fun (r : Int32) (u : Unit) => Q r) (fun (u : Unit) (t : State) => va_P D vwCl (w_X5_isDigit C ) t.heap ∧ va_K D vwCl (tyL C) t ∧ va_D A (w_X5_isDigit C )) A
set_option maxHeartbeats 4000000 in
set_option maxRecDepth 100000 in
theorem met_X5_isDigit (l : Launch) (D : va_G) (C : Nat → ClassId) (p0 : Int32) (sz : Nat) (Q : Int32 → Prop) (hwp : wp_X5_isDigit p0 Q) : Met l yX5_isDigit ws_X5_isDigit rm_X5_isDigit (va_Pc [.int p0] (fun U => U.heap.size = sz ∧ va_P D vwCl (w_X5_isDigit C ) U.heap ∧ va_K D vwCl (tyL C) U ∧ va_D (fun _ => True) (w_X5_isDigit C ))) (q_X5_isDigit D C  Q (va_A (w_X5_isDigit C ) sz)) 0 0 (va_A (w_X5_isDigit C ) sz) := by
  refine Met.ofW (cc := cX5_isDigit) (maxL := 1) (ret := (some .boolean)) (by decide) rfl ?_
  intro p e s m args below meth c s₁ B hml hv
  obtain ⟨rfl, hsz, hP, hK, hD0⟩ := hv
  have hx := B.exec
  have hb := B.bytes
  have hr := B.returns
  have hts : ∀ w ∈ WALL, w.before _ s = true := fun w h => atoms_spec (ws := ws_X5_isDigit) B.pre w (List.mem_cons_of_mem _ h)
  have hown : s.vm.findClass RX5 = some m.cls := findClass_of_methodNamed B.named
  have hlocks := B.notSynchronized
  subst hsz
  have hD := hD0.self (sz := s.heap.size)
  generalize hAe : va_A (w_X5_isDigit C ) s.heap.size = A at hD ⊢
  have hA : ∀ q : Nat, s.heap.size ≤ q → A q := fun q h => by rw [← hAe]; exact Or.inr h
  have hS : va_S A s.heap s.heap [] := va_S.rf
  have hl := lv_entry ([.int p0]) (n := 1) (Nat.le_of_ble_eq_true rfl)
  rw [lg_entry_eq]
  generalize (lg_sl ([.int p0]) ++ List.replicate (1 - (lg_sl ([.int p0])).length) Slot.unset).toArray = ls at hl ⊢
  have hl : lv_has ls 1 [(0, .int p0)] := hl
  unfold wp_X5_isDigit at hwp
  obtain ⟨H, hH⟩ : ∃ H, H = s.heap := ⟨_, rfl⟩
  obtain ⟨locs, hlo⟩ : ∃ z : List Loc, z = [] := ⟨_, rfl⟩
  have hP : va_P D vwCl [] H := by rw [hH]; exact hP
  have hD : va_D A [] := hD
  have hS : va_S A s.heap H locs := by rw [hH, hlo]; exact hS
  suffices K : W p l e (headSpec ws_X5_isDigit rm_X5_isDigit).room s m ([.int p0] : List Value).toArray below meth c H locs 0 0 (MQ below (q_X5_isDigit D C Q A) ([.int p0] : List Value).toArray s 0 0 A) (F0 m 0 ls []) from by rw [hH, hlo] at K; exact K
  refine lv_iload_n hx hb dX5_isDigit_0 rfl (lv_at hl 0 rfl) ?_
  refine lv_bipush (v := 48) hx hb dX5_isDigit_1 (by decide) ?_
  refine lv_icmp_lt (tgt := 16) hx hb dX5_isDigit_3 (by decide) (fun c3 => ?_) (fun c3 => ?_)
  · have hwp := hwp.1 c3
    refine lv_iconst (v := 0) hx hb dX5_isDigit_16 (by decide) ?_
    have hP9 := hP.sub (ws' := []) [] rfl
    have hD9 := hD.sub (ws' := []) [] (by decide) rfl
    exact W.zret (v := (0 : Int32)) (ty := .boolean) hx hb hr rfl (fun t ht hW => ⟨⟨(0 : Int32), (), rfl, hwp, by rw [ht]; exact hP9, va_K.moved hW.alike hK, hD9⟩, hS.F ht⟩) hS.2.2 dX5_isDigit_17
  · have hwp := hwp.2 c3
    refine lv_iload_n hx hb dX5_isDigit_6 rfl (lv_at hl 0 rfl) ?_
    refine lv_bipush (v := 57) hx hb dX5_isDigit_7 (by decide) ?_
    refine lv_icmp_gt (tgt := 16) hx hb dX5_isDigit_9 (by decide) (fun c9 => ?_) (fun c9 => ?_)
    · have hwp := hwp.1 c9
      refine lv_iconst (v := 0) hx hb dX5_isDigit_16 (by decide) ?_
      have hP9 := hP.sub (ws' := []) [] rfl
      have hD9 := hD.sub (ws' := []) [] (by decide) rfl
      exact W.zret (v := (0 : Int32)) (ty := .boolean) hx hb hr rfl (fun t ht hW => ⟨⟨(0 : Int32), (), rfl, hwp, by rw [ht]; exact hP9, va_K.moved hW.alike hK, hD9⟩, hS.F ht⟩) hS.2.2 dX5_isDigit_17
    · have hwp := hwp.2 c9
      refine lv_iconst (v := 1) hx hb dX5_isDigit_12 (by decide) ?_
      refine lv_goto (tgt := 17) hx hb dX5_isDigit_13 (by decide) ?_
      have hP9 := hP.sub (ws' := []) [] rfl
      have hD9 := hD.sub (ws' := []) [] (by decide) rfl
      exact W.zret (v := (1 : Int32)) (ty := .boolean) hx hb hr rfl (fun t ht hW => ⟨⟨(1 : Int32), (), rfl, hwp, by rw [ht]; exact hP9, va_K.moved hW.alike hK, hD9⟩, hS.F ht⟩) hS.2.2 dX5_isDigit_17
abbrev ws_X5_advance : List Cond := .code yX5_advance cX5_advance 1 none :: WALL
theorem gc_X5_63 : GoodIn WALL (va_wsS RX5 63 yX5_isLetter ws_X5_isLetter) := gc_s wd_899 wd_900 wd_36 wd_901
theorem gc_X5_67 : GoodIn WALL (va_wsS RX5 67 yX5_isDigit ws_X5_isDigit) := gc_s wd_902 wd_903 wd_36 wd_904
abbrev rm_X5_advance : Room := { frames := 1, cells := 0, slots := 0, locals := 21 }
abbrev w_X5_advance (C : Nat → ClassId) (q : Nat) (q_draft : Nat) (q_text : Nat) (t_code : Int32) (t_place : Int32) (t_length : Int32) (t_kind : Int32) (t_start : Int32) (t_next : Int32) (t_value : Int32) (t_text : Nat → Int32) : va_W := [(q, .inr (5, [.ref q_draft, .int t_code, .int t_place, .ref q_text, .int t_length, .int t_kind, .int t_start, .int t_next, .int t_value])), (q_text, .inl (C 1, 600, .inl t_text))]
abbrev q_X5_advance (D : va_G) (C : Nat → ClassId) (q : Nat) (q_draft : Nat) (q_text : Nat) (t_code : Int32) (t_place : Int32) (t_length : Int32) (t_text : Nat → Int32) (Q : Int32 → Int32 → Int32 → Int32 → Prop) (A : Nat → Prop) : Array Value → State → Outcome → State → Prop := va_Qv (fun (u : Int32 × Int32 × Int32 × Int32) => Q u.1 u.2.1 u.2.2.1 u.2.2.2) (fun (u : Int32 × Int32 × Int32 × Int32) (t : State) => va_P D vwCl (w_X5_advance C q q_draft q_text t_code t_place t_length u.1 u.2.1 u.2.2.1 u.2.2.2 t_text) t.heap ∧ va_K D vwCl (tyL C) t ∧ va_D A (w_X5_advance C q q_draft q_text t_code t_place t_length u.1 u.2.1 u.2.2.1 u.2.2.2 t_text)) A
set_option maxHeartbeats 4000000 in
set_option maxRecDepth 100000 in
theorem met_X5_advance (l : Launch) (D : va_G) (C : Nat → ClassId) (q : Nat) (q_draft : Nat) (q_text : Nat) (t_code : Int32) (t_place : Int32) (t_length : Int32) (t_kind : Int32) (t_start : Int32) (t_next : Int32) (t_value : Int32) (t_text : Nat → Int32) (sz : Nat) (Q : Int32 → Int32 → Int32 → Int32 → Prop) (hwp : wp_X5_advance t_length t_kind t_start t_next t_value t_text Q) : Met l yX5_advance ws_X5_advance rm_X5_advance (va_Pc [.ref q] (fun U => U.heap.size = sz ∧ va_P D vwCl (w_X5_advance C q q_draft q_text t_code t_place t_length t_kind t_start t_next t_value t_text) U.heap ∧ va_K D vwCl (tyL C) U ∧ va_D (fun _ => True) (w_X5_advance C q q_draft q_text t_code t_place t_length t_kind t_start t_next t_value t_text))) (q_X5_advance D C q q_draft q_text t_code t_place t_length t_text Q (va_A (w_X5_advance C q q_draft q_text t_code t_place t_length t_kind t_start t_next t_value t_text) sz)) 0 0 (va_A (w_X5_advance C q q_draft q_text t_code t_place t_length t_kind t_start t_next t_value t_text) sz) := by
  refine Met.ofW (cc := cX5_advance) (maxL := 1) (ret := none) (by decide) rfl ?_
  intro p e s m args below meth c s₁ B hml hv
  obtain ⟨rfl, hsz, hP, hK, hD0⟩ := hv
  have hx := B.exec
  have hb := B.bytes
  have hr := B.returns
  have hts : ∀ w ∈ WALL, w.before _ s = true := fun w h => atoms_spec (ws := ws_X5_advance) B.pre w (List.mem_cons_of_mem _ h)
  have hown : s.vm.findClass RX5 = some m.cls := findClass_of_methodNamed B.named
  have hlocks := B.notSynchronized
  subst hsz
  have hD := hD0.self (sz := s.heap.size)
  generalize hAe : va_A (w_X5_advance C q q_draft q_text t_code t_place t_length t_kind t_start t_next t_value t_text) s.heap.size = A at hD ⊢
  have hA : ∀ q : Nat, s.heap.size ≤ q → A q := fun q h => by rw [← hAe]; exact Or.inr h
  have hS : va_S A s.heap s.heap [] := va_S.rf
  have hl := lv_entry ([.ref q]) (n := 1) (Nat.le_of_ble_eq_true rfl)
  rw [lg_entry_eq]
  generalize (lg_sl ([.ref q]) ++ List.replicate (1 - (lg_sl ([.ref q])).length) Slot.unset).toArray = ls at hl ⊢
  have hl : lv_has ls 1 [(0, .ref q)] := hl
  have HL0 : ∀ (t_kind : Int32) (t_start : Int32) (t_value : Int32) (k52 : Int32 → Prop) (hk52 : ∀ (t_next : Int32) (H : Heap) (locs : List Loc) (ls : Array Slot), lv_has ls 1 [(0, .ref q)] → va_P D vwCl [(q, .inr (5, [.ref q_draft, .int t_code, .int t_place, .ref q_text, .int t_length, .int t_kind, .int t_start, .int t_next, .int t_value])), (q_text, .inl (C 1, 600, .inl t_text))] H → va_D A [(q, .inr (5, [.ref q_draft, .int t_code, .int t_place, .ref q_text, .int t_length, .int t_kind, .int t_start, .int t_next, .int t_value])), (q_text, .inl (C 1, 600, .inl t_text))] → va_S A s.heap H locs → k52 t_next → W p l e (headSpec ws_X5_advance rm_X5_advance).room s m ([.ref q] : List Value).toArray below meth c H locs 0 0 (MQ below (q_X5_advance D C q q_draft q_text t_code t_place t_length t_text Q A) ([.ref q] : List Value).toArray s 0 0 A) (F0 m 52 ls [])) (n0 : Nat) (t_next : Int32) (H : Heap) (locs : List Loc) (ls : Array Slot), lv_has ls 1 [(0, .ref q)] → va_P D vwCl [(q, .inr (5, [.ref q_draft, .int t_code, .int t_place, .ref q_text, .int t_length, .int t_kind, .int t_start, .int t_next, .int t_value])), (q_text, .inl (C 1, 600, .inl t_text))] H → va_D A [(q, .inr (5, [.ref q_draft, .int t_code, .int t_place, .ref q_text, .int t_length, .int t_kind, .int t_start, .int t_next, .int t_value])), (q_text, .inl (C 1, 600, .inl t_text))] → va_S A s.heap H locs → wp_X5_advance_L0 t_length t_text t_kind t_start t_value k52 Q n0 t_next → W p l e (headSpec ws_X5_advance rm_X5_advance).room s m ([.ref q] : List Value).toArray below meth c H locs 0 0 (MQ below (q_X5_advance D C q q_draft q_text t_code t_place t_length t_text Q A) ([.ref q] : List Value).toArray s 0 0 A) (F0 m 0 ls []) := by
    intro t_kind t_start t_value k52 hk52 n0
    induction n0 with
    | zero =>
      intro t_next H locs ls hl hP hD hS hwp
      exact False.elim hwp
    | succ n0 ih =>
      intro t_next H locs ls hl hP hD hS hwp
      unfold wp_X5_advance_L0 at hwp
      refine lv_aload_n hx hb dX5_advance_0 rfl (lv_at hl 0 rfl) ?_
      refine va_get (D := D) (ci := 5) (v := .int t_next) (C := RX5) (T := TX5) (N := 9) hx hb hts iwX5 hown hK hP 0 rfl rfl 7 (by decide) (hts (.fieldLink RX5 35 "ParetoDesk$Parser" "next" "I") wd_157) (fun _ h9 => h9) rfl dX5_advance_1 ?_
      refine lv_aload_n hx hb dX5_advance_4 rfl (lv_at hl 0 rfl) ?_
      refine va_get (D := D) (ci := 5) (v := .int t_length) (C := RX5) (T := TX5) (N := 9) hx hb hts iwX5 hown hK hP 0 rfl rfl 4 (by decide) (hts (.fieldLink RX5 32 "ParetoDesk$Parser" "length" "I") wd_154) (fun _ h9 => h9) rfl dX5_advance_5 ?_
      refine lv_icmp_ge (tgt := 52) hx hb dX5_advance_8 (by decide) (fun c8 => ?_) (fun c8 => ?_)
      · have hwp := hwp.1 c8
        have hl9 := lv_sub (l' := [(0, .ref q)]) hl [0] rfl
        have hP9 := hP.sub (ws' := [(q, .inr (5, [.ref q_draft, .int t_code, .int t_place, .ref q_text, .int t_length, .int t_kind, .int t_start, .int t_next, .int t_value])), (q_text, .inl (C 1, 600, .inl t_text))]) [0, 1] rfl
        have hD9 := hD.sub (ws' := [(q, .inr (5, [.ref q_draft, .int t_code, .int t_place, .ref q_text, .int t_length, .int t_kind, .int t_start, .int t_next, .int t_value])), (q_text, .inl (C 1, 600, .inl t_text))]) [0, 1] (by decide) rfl
        exact hk52 t_next H locs ls hl9 hP9 hD9 hS hwp
      · have hwp := hwp.2 c8
        refine lv_aload_n hx hb dX5_advance_11 rfl (lv_at hl 0 rfl) ?_
        refine va_get (D := D) (ci := 5) (v := .ref q_text) (C := RX5) (T := TX5) (N := 9) hx hb hts iwX5 hown hK hP 0 rfl rfl 3 (by decide) (hts (.fieldLink RX5 22 "ParetoDesk$Parser" "text" "[B") wd_153) (fun _ h9 => h9) rfl dX5_advance_12 ?_
        refine lv_aload_n hx hb dX5_advance_15 rfl (lv_at hl 0 rfl) ?_
        refine va_get (D := D) (ci := 5) (v := .int t_next) (C := RX5) (T := TX5) (N := 9) hx hb hts iwX5 hown hK hP 0 rfl rfl 7 (by decide) (hts (.fieldLink RX5 35 "ParetoDesk$Parser" "next" "I") wd_157) (fun _ h9 => h9) rfl dX5_advance_16 ?_
        obtain ⟨hi19, hwp⟩ := hwp
        refine va_bald (D := D) hx hb hK hP 1 1 rfl rfl hi19 dX5_advance_19 ?_
        refine lv_bipush (v := 32) hx hb dX5_advance_20 (by decide) ?_
        refine lv_icmp_eq (tgt := 39) hx hb dX5_advance_22 (by decide) (fun c22 => ?_) (fun c22 => ?_)
        · have hwp := hwp.1 c22
          refine lv_aload_n hx hb dX5_advance_39 rfl (lv_at hl 0 rfl) ?_
          refine lv_dup hx hb dX5_advance_40 rfl ?_
          refine va_get (D := D) (ci := 5) (v := .int t_next) (C := RX5) (T := TX5) (N := 9) hx hb hts iwX5 hown hK hP 0 rfl rfl 7 (by decide) (hts (.fieldLink RX5 35 "ParetoDesk$Parser" "next" "I") wd_157) (fun _ h9 => h9) rfl dX5_advance_41 ?_
          refine lv_iconst (v := 1) hx hb dX5_advance_44 (by decide) ?_
          refine lv_iadd hx hb dX5_advance_45 ?_
          refine va_put (D := D) (ci := 5) (v := .int (t_next + (1 : Int32))) (ty := .int) (C := RX5) (T := TX5) (N := 9) hx hb hts iwX5 tyX5 tyX5_ok nmX5 hown hK hP hD hS 0 rfl rfl 7 (by decide) (hts (.fieldLink RX5 35 "ParetoDesk$Parser" "next" "I") wd_157) (fun _ h9 => h9) rfl (by decide +kernel) rfl rfl (Nat.le_of_ble_eq_true rfl) dX5_advance_46 (fun H locs hP hD hS => ?_)
          have hP : va_P D vwCl [(q, .inr (5, [.ref q_draft, .int t_code, .int t_place, .ref q_text, .int t_length, .int t_kind, .int t_start, .int (t_next + (1 : Int32)), .int t_value])), (q_text, .inl (C 1, 600, .inl t_text))] H := hP
          have hD : va_D A [(q, .inr (5, [.ref q_draft, .int t_code, .int t_place, .ref q_text, .int t_length, .int t_kind, .int t_start, .int (t_next + (1 : Int32)), .int t_value])), (q_text, .inl (C 1, 600, .inl t_text))] := hD
          refine lv_goto (tgt := 0) hx hb dX5_advance_49 (by decide) ?_
          have hl9 := lv_sub (l' := [(0, .ref q)]) hl [0] rfl
          have hP9 := hP.sub (ws' := [(q, .inr (5, [.ref q_draft, .int t_code, .int t_place, .ref q_text, .int t_length, .int t_kind, .int t_start, .int (t_next + (1 : Int32)), .int t_value])), (q_text, .inl (C 1, 600, .inl t_text))]) [0, 1] rfl
          have hD9 := hD.sub (ws' := [(q, .inr (5, [.ref q_draft, .int t_code, .int t_place, .ref q_text, .int t_length, .int t_kind, .int t_start, .int (t_next + (1 : Int32)), .int t_value])), (q_text, .inl (C 1, 600, .inl t_text))]) [0, 1] (by decide) rfl
          exact ih (t_next + (1 : Int32)) H locs ls hl9 hP9 hD9 hS hwp
        · have hwp := hwp.2 c22
          refine lv_aload_n hx hb dX5_advance_25 rfl (lv_at hl 0 rfl) ?_
          refine va_get (D := D) (ci := 5) (v := .ref q_text) (C := RX5) (T := TX5) (N := 9) hx hb hts iwX5 hown hK hP 0 rfl rfl 3 (by decide) (hts (.fieldLink RX5 22 "ParetoDesk$Parser" "text" "[B") wd_153) (fun _ h9 => h9) rfl dX5_advance_26 ?_
          refine lv_aload_n hx hb dX5_advance_29 rfl (lv_at hl 0 rfl) ?_
          refine va_get (D := D) (ci := 5) (v := .int t_next) (C := RX5) (T := TX5) (N := 9) hx hb hts iwX5 hown hK hP 0 rfl rfl 7 (by decide) (hts (.fieldLink RX5 35 "ParetoDesk$Parser" "next" "I") wd_157) (fun _ h9 => h9) rfl dX5_advance_30 ?_
          obtain ⟨hi33, hwp⟩ := hwp
          refine va_bald (D := D) hx hb hK hP 1 1 rfl rfl hi33 dX5_advance_33 ?_
          refine lv_bipush (v := 10) hx hb dX5_advance_34 (by decide) ?_
          refine lv_icmp_ne (tgt := 52) hx hb dX5_advance_36 (by decide) (fun c36 => ?_) (fun c36 => ?_)
          · have hwp := hwp.1 c36
            have hl9 := lv_sub (l' := [(0, .ref q)]) hl [0] rfl
            have hP9 := hP.sub (ws' := [(q, .inr (5, [.ref q_draft, .int t_code, .int t_place, .ref q_text, .int t_length, .int t_kind, .int t_start, .int t_next, .int t_value])), (q_text, .inl (C 1, 600, .inl t_text))]) [0, 1] rfl
            have hD9 := hD.sub (ws' := [(q, .inr (5, [.ref q_draft, .int t_code, .int t_place, .ref q_text, .int t_length, .int t_kind, .int t_start, .int t_next, .int t_value])), (q_text, .inl (C 1, 600, .inl t_text))]) [0, 1] (by decide) rfl
            exact hk52 t_next H locs ls hl9 hP9 hD9 hS hwp
          · have hwp := hwp.2 c36
            refine lv_aload_n hx hb dX5_advance_39 rfl (lv_at hl 0 rfl) ?_
            refine lv_dup hx hb dX5_advance_40 rfl ?_
            refine va_get (D := D) (ci := 5) (v := .int t_next) (C := RX5) (T := TX5) (N := 9) hx hb hts iwX5 hown hK hP 0 rfl rfl 7 (by decide) (hts (.fieldLink RX5 35 "ParetoDesk$Parser" "next" "I") wd_157) (fun _ h9 => h9) rfl dX5_advance_41 ?_
            refine lv_iconst (v := 1) hx hb dX5_advance_44 (by decide) ?_
            refine lv_iadd hx hb dX5_advance_45 ?_
            refine va_put (D := D) (ci := 5) (v := .int (t_next + (1 : Int32))) (ty := .int) (C := RX5) (T := TX5) (N := 9) hx hb hts iwX5 tyX5 tyX5_ok nmX5 hown hK hP hD hS 0 rfl rfl 7 (by decide) (hts (.fieldLink RX5 35 "ParetoDesk$Parser" "next" "I") wd_157) (fun _ h9 => h9) rfl (by decide +kernel) rfl rfl (Nat.le_of_ble_eq_true rfl) dX5_advance_46 (fun H locs hP hD hS => ?_)
            have hP : va_P D vwCl [(q, .inr (5, [.ref q_draft, .int t_code, .int t_place, .ref q_text, .int t_length, .int t_kind, .int t_start, .int (t_next + (1 : Int32)), .int t_value])), (q_text, .inl (C 1, 600, .inl t_text))] H := hP
            have hD : va_D A [(q, .inr (5, [.ref q_draft, .int t_code, .int t_place, .ref q_text, .int t_length, .int t_kind, .int t_start, .int (t_next + (1 : Int32)), .int t_value])), (q_text, .inl (C 1, 600, .inl t_text))] := hD
            refine lv_goto (tgt := 0) hx hb dX5_advance_49 (by decide) ?_
            have hl9 := lv_sub (l' := [(0, .ref q)]) hl [0] rfl
            have hP9 := hP.sub (ws' := [(q, .inr (5, [.ref q_draft, .int t_code, .int t_place, .ref q_text, .int t_length, .int t_kind, .int t_start, .int (t_next + (1 : Int32)), .int t_value])), (q_text, .inl (C 1, 600, .inl t_text))]) [0, 1] rfl
            have hD9 := hD.sub (ws' := [(q, .inr (5, [.ref q_draft, .int t_code, .int t_place, .ref q_text, .int t_length, .int t_kind, .int t_start, .int (t_next + (1 : Int32)), .int t_value])), (q_text, .inl (C 1, 600, .inl t_text))]) [0, 1] (by decide) rfl
            exact ih (t_next + (1 : Int32)) H locs ls hl9 hP9 hD9 hS hwp
  have HL163 : ∀ (t_kind : Int32) (t_start : Int32) (n163 : Nat) (t_next : Int32) (t_value : Int32) (H : Heap) (locs : List Loc) (ls : Array Slot), lv_has ls 1 [(0, .ref q)] → va_P D vwCl [(q, .inr (5, [.ref q_draft, .int t_code, .int t_place, .ref q_text, .int t_length, .int t_kind, .int t_start, .int t_next, .int t_value])), (q_text, .inl (C 1, 600, .inl t_text))] H → va_D A [(q, .inr (5, [.ref q_draft, .int t_code, .int t_place, .ref q_text, .int t_length, .int t_kind, .int t_start, .int t_next, .int t_value])), (q_text, .inl (C 1, 600, .inl t_text))] → va_S A s.heap H locs → wp_X5_advance_L163 t_length t_text t_kind t_start Q n163 t_next t_value → W p l e (headSpec ws_X5_advance rm_X5_advance).room s m ([.ref q] : List Value).toArray below meth c H locs 0 0 (MQ below (q_X5_advance D C q q_draft q_text t_code t_place t_length t_text Q A) ([.ref q] : List Value).toArray s 0 0 A) (F0 m 163 ls []) := by
    intro t_kind t_start n163
    induction n163 with
    | zero =>
      intro t_next t_value H locs ls hl hP hD hS hwp
      exact False.elim hwp
    | succ n163 ih =>
      intro t_next t_value H locs ls hl hP hD hS hwp
      unfold wp_X5_advance_L163 at hwp
      refine lv_aload_n hx hb dX5_advance_163 rfl (lv_at hl 0 rfl) ?_
      refine va_get (D := D) (ci := 5) (v := .int t_next) (C := RX5) (T := TX5) (N := 9) hx hb hts iwX5 hown hK hP 0 rfl rfl 7 (by decide) (hts (.fieldLink RX5 35 "ParetoDesk$Parser" "next" "I") wd_157) (fun _ h9 => h9) rfl dX5_advance_164 ?_
      refine lv_aload_n hx hb dX5_advance_167 rfl (lv_at hl 0 rfl) ?_
      refine va_get (D := D) (ci := 5) (v := .int t_length) (C := RX5) (T := TX5) (N := 9) hx hb hts iwX5 hown hK hP 0 rfl rfl 4 (by decide) (hts (.fieldLink RX5 32 "ParetoDesk$Parser" "length" "I") wd_154) (fun _ h9 => h9) rfl dX5_advance_168 ?_
      refine lv_icmp_ge (tgt := 246) hx hb dX5_advance_171 (by decide) (fun c171 => ?_) (fun c171 => ?_)
      · have hwp := hwp.1 c171
        have hP9 := hP.sub (ws' := [(q, .inr (5, [.ref q_draft, .int t_code, .int t_place, .ref q_text, .int t_length, .int t_kind, .int t_start, .int t_next, .int t_value])), (q_text, .inl (C 1, 600, .inl t_text))]) [0, 1] rfl
        have hD9 := hD.sub (ws' := [(q, .inr (5, [.ref q_draft, .int t_code, .int t_place, .ref q_text, .int t_length, .int t_kind, .int t_start, .int t_next, .int t_value])), (q_text, .inl (C 1, 600, .inl t_text))]) [0, 1] (by decide) rfl
        exact W.vret hx hb hr (fun t ht hW => ⟨⟨(t_kind, t_start, t_next, t_value), rfl, hwp, by rw [ht]; exact hP9, va_K.moved hW.alike hK, hD9⟩, hS.F ht⟩) hS.2.2 dX5_advance_246
      · have hwp := hwp.2 c171
        refine lv_aload_n hx hb dX5_advance_174 rfl (lv_at hl 0 rfl) ?_
        refine va_get (D := D) (ci := 5) (v := .ref q_text) (C := RX5) (T := TX5) (N := 9) hx hb hts iwX5 hown hK hP 0 rfl rfl 3 (by decide) (hts (.fieldLink RX5 22 "ParetoDesk$Parser" "text" "[B") wd_153) (fun _ h9 => h9) rfl dX5_advance_175 ?_
        refine lv_aload_n hx hb dX5_advance_178 rfl (lv_at hl 0 rfl) ?_
        refine va_get (D := D) (ci := 5) (v := .int t_next) (C := RX5) (T := TX5) (N := 9) hx hb hts iwX5 hown hK hP 0 rfl rfl 7 (by decide) (hts (.fieldLink RX5 35 "ParetoDesk$Parser" "next" "I") wd_157) (fun _ h9 => h9) rfl dX5_advance_179 ?_
        obtain ⟨hi182, hwp⟩ := hwp
        refine va_bald (D := D) hx hb hK hP 1 1 rfl rfl hi182 dX5_advance_182 ?_
        have hPc := hP.sub (ws' := []) [] rfl
        have hDc := hD.sub (ws' := []) [] (by decide) rfl
        have hFc := va_free (wc := []) hD hS hA [] rfl
        refine va_calli (va_runS (As := [.int (t_text t_next.toNatClampNeg)]) (rest := []) ⟨hx, hb, hml, hown, hts⟩ (met_X5_isDigit l D C (t_text t_next.toNatClampNeg) H.size _ hwp) (va_cwS 1 hts gc_X5_67 rfl rfl rfl (by decide +kernel) ⟨Nat.le_of_ble_eq_true rfl, Nat.le_of_ble_eq_true rfl⟩) ⟨fun a U g mk q => by obtain ⟨q0, q1, qP, qK, qD⟩ := q; exact ⟨q0, q1, qP, va_K.moved (u := U) (U := U.calling g mk a) (Vm.Alike.refl U.vm) qK, qD⟩, fun U hU hW => ⟨rfl, by rw [hU], by rw [hU]; exact hPc, va_K.moved hW.alike hK, hDc.weaken (fun _ _ _ _ => trivial)⟩⟩ rfl rfl hl.1 rfl (lv_room (Nat.le_of_ble_eq_true rfl)) dX5_advance_183 ⟨Nat.zero_le _, Nat.zero_le _⟩) hS (fun q _ h => hFc q h) hFc (fun r183 u t H1 locs ht hvm hwp hB hz1 hk1 hS => ?_)
        obtain ⟨hP1, -, hD1⟩ := hB
        rw [ht] at hP1
        obtain ⟨hP, hD⟩ := va_join (wr := [(q, .inr (5, [.ref q_draft, .int t_code, .int t_place, .ref q_text, .int t_length, .int t_kind, .int t_start, .int t_next, .int t_value])), (q_text, .inl (C 1, 600, .inl t_text))]) (w1 := []) hP hD [] [0, 1] rfl rfl (by decide) (by decide) hk1 hFc hP1 hD1
        generalize H1 = H at hP hS ⊢
        have hP : va_P D vwCl [(q, .inr (5, [.ref q_draft, .int t_code, .int t_place, .ref q_text, .int t_length, .int t_kind, .int t_start, .int t_next, .int t_value])), (q_text, .inl (C 1, 600, .inl t_text))] H := hP
        have hD : va_D A [(q, .inr (5, [.ref q_draft, .int t_code, .int t_place, .ref q_text, .int t_length, .int t_kind, .int t_start, .int t_next, .int t_value])), (q_text, .inl (C 1, 600, .inl t_text))] := hD
        refine lv_if_eq (tgt := 246) hx hb dX5_advance_186 (by decide) (fun c186 => ?_) (fun c186 => ?_)
        · have hwp := hwp.1 c186
          have hP9 := hP.sub (ws' := [(q, .inr (5, [.ref q_draft, .int t_code, .int t_place, .ref q_text, .int t_length, .int t_kind, .int t_start, .int t_next, .int t_value])), (q_text, .inl (C 1, 600, .inl t_text))]) [0, 1] rfl
          have hD9 := hD.sub (ws' := [(q, .inr (5, [.ref q_draft, .int t_code, .int t_place, .ref q_text, .int t_length, .int t_kind, .int t_start, .int t_next, .int t_value])), (q_text, .inl (C 1, 600, .inl t_text))]) [0, 1] (by decide) rfl
          exact W.vret hx hb hr (fun t ht hW => ⟨⟨(t_kind, t_start, t_next, t_value), rfl, hwp, by rw [ht]; exact hP9, va_K.moved hW.alike hK, hD9⟩, hS.F ht⟩) hS.2.2 dX5_advance_246
        · have hwp := hwp.2 c186
          refine lv_aload_n hx hb dX5_advance_189 rfl (lv_at hl 0 rfl) ?_
          refine lv_ldc (own := RX5) (index := 70) (v := 100000) hx hb hown (hts (.constant RX5 70 (100000)) wd_905) dX5_advance_190 ?_
          refine lv_aload_n hx hb dX5_advance_192 rfl (lv_at hl 0 rfl) ?_
          refine va_get (D := D) (ci := 5) (v := .int t_value) (C := RX5) (T := TX5) (N := 9) hx hb hts iwX5 hown hK hP 0 rfl rfl 8 (by decide) (hts (.fieldLink RX5 60 "ParetoDesk$Parser" "value" "I") wd_158) (fun _ h9 => h9) rfl dX5_advance_193 ?_
          refine lv_bipush (v := 10) hx hb dX5_advance_196 (by decide) ?_
          refine lv_imul hx hb dX5_advance_198 ?_
          refine lv_aload_n hx hb dX5_advance_199 rfl (lv_at hl 0 rfl) ?_
          refine va_get (D := D) (ci := 5) (v := .ref q_text) (C := RX5) (T := TX5) (N := 9) hx hb hts iwX5 hown hK hP 0 rfl rfl 3 (by decide) (hts (.fieldLink RX5 22 "ParetoDesk$Parser" "text" "[B") wd_153) (fun _ h9 => h9) rfl dX5_advance_200 ?_
          refine lv_aload_n hx hb dX5_advance_203 rfl (lv_at hl 0 rfl) ?_
          refine va_get (D := D) (ci := 5) (v := .int t_next) (C := RX5) (T := TX5) (N := 9) hx hb hts iwX5 hown hK hP 0 rfl rfl 7 (by decide) (hts (.fieldLink RX5 35 "ParetoDesk$Parser" "next" "I") wd_157) (fun _ h9 => h9) rfl dX5_advance_204 ?_
          obtain ⟨hi207, hwp⟩ := hwp
          refine va_bald (D := D) hx hb hK hP 1 1 rfl rfl hi207 dX5_advance_207 ?_
          refine lv_iadd hx hb dX5_advance_208 ?_
          refine lv_bipush (v := 48) hx hb dX5_advance_209 (by decide) ?_
          refine lv_isub hx hb dX5_advance_211 ?_
          refine va_mmin (own := RX5) (index := 71) hx hb (hml.trans hl.1.symm) hown (hts (.methodLink RX5 71 Lib.Math.min.name) wd_906) (hts (.static Lib.Math.min.name) wd_645) (hts (.initialized "java/lang/Math") wd_51) (hts (.code Lib.Math.min.name Lib.Math.min.code 2 (some .int)) wd_646_0) (Nat.le_of_ble_eq_true rfl) (Nat.le_of_ble_eq_true rfl) (Nat.zero_le _) (Nat.zero_le _) dX5_advance_212 ?_
          refine lv_topi (fun v215 ev215 => ?_)
          have hwp := hwp v215 ev215
          refine va_put (D := D) (ci := 5) (v := .int v215) (ty := .int) (C := RX5) (T := TX5) (N := 9) hx hb hts iwX5 tyX5 tyX5_ok nmX5 hown hK hP hD hS 0 rfl rfl 8 (by decide) (hts (.fieldLink RX5 60 "ParetoDesk$Parser" "value" "I") wd_158) (fun _ h9 => h9) rfl (by decide +kernel) rfl rfl (Nat.le_of_ble_eq_true rfl) dX5_advance_215 (fun H locs hP hD hS => ?_)
          have hP : va_P D vwCl [(q, .inr (5, [.ref q_draft, .int t_code, .int t_place, .ref q_text, .int t_length, .int t_kind, .int t_start, .int t_next, .int v215])), (q_text, .inl (C 1, 600, .inl t_text))] H := hP
          have hD : va_D A [(q, .inr (5, [.ref q_draft, .int t_code, .int t_place, .ref q_text, .int t_length, .int t_kind, .int t_start, .int t_next, .int v215])), (q_text, .inl (C 1, 600, .inl t_text))] := hD
          refine lv_aload_n hx hb dX5_advance_218 rfl (lv_at hl 0 rfl) ?_
          refine lv_dup hx hb dX5_advance_219 rfl ?_
          refine va_get (D := D) (ci := 5) (v := .int t_next) (C := RX5) (T := TX5) (N := 9) hx hb hts iwX5 hown hK hP 0 rfl rfl 7 (by decide) (hts (.fieldLink RX5 35 "ParetoDesk$Parser" "next" "I") wd_157) (fun _ h9 => h9) rfl dX5_advance_220 ?_
          refine lv_iconst (v := 1) hx hb dX5_advance_223 (by decide) ?_
          refine lv_iadd hx hb dX5_advance_224 ?_
          refine va_put (D := D) (ci := 5) (v := .int (t_next + (1 : Int32))) (ty := .int) (C := RX5) (T := TX5) (N := 9) hx hb hts iwX5 tyX5 tyX5_ok nmX5 hown hK hP hD hS 0 rfl rfl 7 (by decide) (hts (.fieldLink RX5 35 "ParetoDesk$Parser" "next" "I") wd_157) (fun _ h9 => h9) rfl (by decide +kernel) rfl rfl (Nat.le_of_ble_eq_true rfl) dX5_advance_225 (fun H locs hP hD hS => ?_)
          have hP : va_P D vwCl [(q, .inr (5, [.ref q_draft, .int t_code, .int t_place, .ref q_text, .int t_length, .int t_kind, .int t_start, .int (t_next + (1 : Int32)), .int v215])), (q_text, .inl (C 1, 600, .inl t_text))] H := hP
          have hD : va_D A [(q, .inr (5, [.ref q_draft, .int t_code, .int t_place, .ref q_text, .int t_length, .int t_kind, .int t_start, .int (t_next + (1 : Int32)), .int v215])), (q_text, .inl (C 1, 600, .inl t_text))] := hD
          refine lv_goto (tgt := 163) hx hb dX5_advance_228 (by decide) ?_
          have hl9 := lv_sub (l' := [(0, .ref q)]) hl [0] rfl
          have hP9 := hP.sub (ws' := [(q, .inr (5, [.ref q_draft, .int t_code, .int t_place, .ref q_text, .int t_length, .int t_kind, .int t_start, .int (t_next + (1 : Int32)), .int v215])), (q_text, .inl (C 1, 600, .inl t_text))]) [0, 1] rfl
          have hD9 := hD.sub (ws' := [(q, .inr (5, [.ref q_draft, .int t_code, .int t_place, .ref q_text, .int t_length, .int t_kind, .int t_start, .int (t_next + (1 : Int32)), .int v215])), (q_text, .inl (C 1, 600, .inl t_text))]) [0, 1] (by decide) rfl
          exact ih (t_next + (1 : Int32)) v215 H locs ls hl9 hP9 hD9 hS hwp
  have HL104 : ∀ (t_kind : Int32) (t_start : Int32) (t_value : Int32) (n104 : Nat) (t_next : Int32) (H : Heap) (locs : List Loc) (ls : Array Slot), lv_has ls 1 [(0, .ref q)] → va_P D vwCl [(q, .inr (5, [.ref q_draft, .int t_code, .int t_place, .ref q_text, .int t_length, .int t_kind, .int t_start, .int t_next, .int t_value])), (q_text, .inl (C 1, 600, .inl t_text))] H → va_D A [(q, .inr (5, [.ref q_draft, .int t_code, .int t_place, .ref q_text, .int t_length, .int t_kind, .int t_start, .int t_next, .int t_value])), (q_text, .inl (C 1, 600, .inl t_text))] → va_S A s.heap H locs → wp_X5_advance_L104 t_length t_text t_kind t_start t_value Q n104 t_next → W p l e (headSpec ws_X5_advance rm_X5_advance).room s m ([.ref q] : List Value).toArray below meth c H locs 0 0 (MQ below (q_X5_advance D C q q_draft q_text t_code t_place t_length t_text Q A) ([.ref q] : List Value).toArray s 0 0 A) (F0 m 104 ls []) := by
    intro t_kind t_start t_value n104
    induction n104 with
    | zero =>
      intro t_next H locs ls hl hP hD hS hwp
      exact False.elim hwp
    | succ n104 ih =>
      intro t_next H locs ls hl hP hD hS hwp
      unfold wp_X5_advance_L104 at hwp
      refine lv_aload_n hx hb dX5_advance_104 rfl (lv_at hl 0 rfl) ?_
      refine va_get (D := D) (ci := 5) (v := .int t_next) (C := RX5) (T := TX5) (N := 9) hx hb hts iwX5 hown hK hP 0 rfl rfl 7 (by decide) (hts (.fieldLink RX5 35 "ParetoDesk$Parser" "next" "I") wd_157) (fun _ h9 => h9) rfl dX5_advance_105 ?_
      refine lv_aload_n hx hb dX5_advance_108 rfl (lv_at hl 0 rfl) ?_
      refine va_get (D := D) (ci := 5) (v := .int t_length) (C := RX5) (T := TX5) (N := 9) hx hb hts iwX5 hown hK hP 0 rfl rfl 4 (by decide) (hts (.fieldLink RX5 32 "ParetoDesk$Parser" "length" "I") wd_154) (fun _ h9 => h9) rfl dX5_advance_109 ?_
      refine lv_icmp_ge (tgt := 246) hx hb dX5_advance_112 (by decide) (fun c112 => ?_) (fun c112 => ?_)
      · have hwp := hwp.1 c112
        have hP9 := hP.sub (ws' := [(q, .inr (5, [.ref q_draft, .int t_code, .int t_place, .ref q_text, .int t_length, .int t_kind, .int t_start, .int t_next, .int t_value])), (q_text, .inl (C 1, 600, .inl t_text))]) [0, 1] rfl
        have hD9 := hD.sub (ws' := [(q, .inr (5, [.ref q_draft, .int t_code, .int t_place, .ref q_text, .int t_length, .int t_kind, .int t_start, .int t_next, .int t_value])), (q_text, .inl (C 1, 600, .inl t_text))]) [0, 1] (by decide) rfl
        exact W.vret hx hb hr (fun t ht hW => ⟨⟨(t_kind, t_start, t_next, t_value), rfl, hwp, by rw [ht]; exact hP9, va_K.moved hW.alike hK, hD9⟩, hS.F ht⟩) hS.2.2 dX5_advance_246
      · have hwp := hwp.2 c112
        refine lv_aload_n hx hb dX5_advance_115 rfl (lv_at hl 0 rfl) ?_
        refine va_get (D := D) (ci := 5) (v := .ref q_text) (C := RX5) (T := TX5) (N := 9) hx hb hts iwX5 hown hK hP 0 rfl rfl 3 (by decide) (hts (.fieldLink RX5 22 "ParetoDesk$Parser" "text" "[B") wd_153) (fun _ h9 => h9) rfl dX5_advance_116 ?_
        refine lv_aload_n hx hb dX5_advance_119 rfl (lv_at hl 0 rfl) ?_
        refine va_get (D := D) (ci := 5) (v := .int t_next) (C := RX5) (T := TX5) (N := 9) hx hb hts iwX5 hown hK hP 0 rfl rfl 7 (by decide) (hts (.fieldLink RX5 35 "ParetoDesk$Parser" "next" "I") wd_157) (fun _ h9 => h9) rfl dX5_advance_120 ?_
        obtain ⟨hi123, hwp⟩ := hwp
        refine va_bald (D := D) hx hb hK hP 1 1 rfl rfl hi123 dX5_advance_123 ?_
        have hPc := hP.sub (ws' := []) [] rfl
        have hDc := hD.sub (ws' := []) [] (by decide) rfl
        have hFc := va_free (wc := []) hD hS hA [] rfl
        refine va_calli (va_runS (As := [.int (t_text t_next.toNatClampNeg)]) (rest := []) ⟨hx, hb, hml, hown, hts⟩ (met_X5_isLetter l D C (t_text t_next.toNatClampNeg) H.size _ hwp) (va_cwS 1 hts gc_X5_63 rfl rfl rfl (by decide +kernel) ⟨Nat.le_of_ble_eq_true rfl, Nat.le_of_ble_eq_true rfl⟩) ⟨fun a U g mk q => by obtain ⟨q0, q1, qP, qK, qD⟩ := q; exact ⟨q0, q1, qP, va_K.moved (u := U) (U := U.calling g mk a) (Vm.Alike.refl U.vm) qK, qD⟩, fun U hU hW => ⟨rfl, by rw [hU], by rw [hU]; exact hPc, va_K.moved hW.alike hK, hDc.weaken (fun _ _ _ _ => trivial)⟩⟩ rfl rfl hl.1 rfl (lv_room (Nat.le_of_ble_eq_true rfl)) dX5_advance_124 ⟨Nat.zero_le _, Nat.zero_le _⟩) hS (fun q _ h => hFc q h) hFc (fun r124 u t H1 locs ht hvm hwp hB hz1 hk1 hS => ?_)
        obtain ⟨hP1, -, hD1⟩ := hB
        rw [ht] at hP1
        obtain ⟨hP, hD⟩ := va_join (wr := [(q, .inr (5, [.ref q_draft, .int t_code, .int t_place, .ref q_text, .int t_length, .int t_kind, .int t_start, .int t_next, .int t_value])), (q_text, .inl (C 1, 600, .inl t_text))]) (w1 := []) hP hD [] [0, 1] rfl rfl (by decide) (by decide) hk1 hFc hP1 hD1
        generalize H1 = H at hP hS ⊢
        have hP : va_P D vwCl [(q, .inr (5, [.ref q_draft, .int t_code, .int t_place, .ref q_text, .int t_length, .int t_kind, .int t_start, .int t_next, .int t_value])), (q_text, .inl (C 1, 600, .inl t_text))] H := hP
        have hD : va_D A [(q, .inr (5, [.ref q_draft, .int t_code, .int t_place, .ref q_text, .int t_length, .int t_kind, .int t_start, .int t_next, .int t_value])), (q_text, .inl (C 1, 600, .inl t_text))] := hD
        refine lv_if_eq (tgt := 246) hx hb dX5_advance_127 (by decide) (fun c127 => ?_) (fun c127 => ?_)
        · have hwp := hwp.1 c127
          have hP9 := hP.sub (ws' := [(q, .inr (5, [.ref q_draft, .int t_code, .int t_place, .ref q_text, .int t_length, .int t_kind, .int t_start, .int t_next, .int t_value])), (q_text, .inl (C 1, 600, .inl t_text))]) [0, 1] rfl
          have hD9 := hD.sub (ws' := [(q, .inr (5, [.ref q_draft, .int t_code, .int t_place, .ref q_text, .int t_length, .int t_kind, .int t_start, .int t_next, .int t_value])), (q_text, .inl (C 1, 600, .inl t_text))]) [0, 1] (by decide) rfl
          exact W.vret hx hb hr (fun t ht hW => ⟨⟨(t_kind, t_start, t_next, t_value), rfl, hwp, by rw [ht]; exact hP9, va_K.moved hW.alike hK, hD9⟩, hS.F ht⟩) hS.2.2 dX5_advance_246
        · have hwp := hwp.2 c127
          refine lv_aload_n hx hb dX5_advance_130 rfl (lv_at hl 0 rfl) ?_
          refine lv_dup hx hb dX5_advance_131 rfl ?_
          refine va_get (D := D) (ci := 5) (v := .int t_next) (C := RX5) (T := TX5) (N := 9) hx hb hts iwX5 hown hK hP 0 rfl rfl 7 (by decide) (hts (.fieldLink RX5 35 "ParetoDesk$Parser" "next" "I") wd_157) (fun _ h9 => h9) rfl dX5_advance_132 ?_
          refine lv_iconst (v := 1) hx hb dX5_advance_135 (by decide) ?_
          refine lv_iadd hx hb dX5_advance_136 ?_
          refine va_put (D := D) (ci := 5) (v := .int (t_next + (1 : Int32))) (ty := .int) (C := RX5) (T := TX5) (N := 9) hx hb hts iwX5 tyX5 tyX5_ok nmX5 hown hK hP hD hS 0 rfl rfl 7 (by decide) (hts (.fieldLink RX5 35 "ParetoDesk$Parser" "next" "I") wd_157) (fun _ h9 => h9) rfl (by decide +kernel) rfl rfl (Nat.le_of_ble_eq_true rfl) dX5_advance_137 (fun H locs hP hD hS => ?_)
          have hP : va_P D vwCl [(q, .inr (5, [.ref q_draft, .int t_code, .int t_place, .ref q_text, .int t_length, .int t_kind, .int t_start, .int (t_next + (1 : Int32)), .int t_value])), (q_text, .inl (C 1, 600, .inl t_text))] H := hP
          have hD : va_D A [(q, .inr (5, [.ref q_draft, .int t_code, .int t_place, .ref q_text, .int t_length, .int t_kind, .int t_start, .int (t_next + (1 : Int32)), .int t_value])), (q_text, .inl (C 1, 600, .inl t_text))] := hD
          refine lv_goto (tgt := 104) hx hb dX5_advance_140 (by decide) ?_
          have hl9 := lv_sub (l' := [(0, .ref q)]) hl [0] rfl
          have hP9 := hP.sub (ws' := [(q, .inr (5, [.ref q_draft, .int t_code, .int t_place, .ref q_text, .int t_length, .int t_kind, .int t_start, .int (t_next + (1 : Int32)), .int t_value])), (q_text, .inl (C 1, 600, .inl t_text))]) [0, 1] rfl
          have hD9 := hD.sub (ws' := [(q, .inr (5, [.ref q_draft, .int t_code, .int t_place, .ref q_text, .int t_length, .int t_kind, .int t_start, .int (t_next + (1 : Int32)), .int t_value])), (q_text, .inl (C 1, 600, .inl t_text))]) [0, 1] (by decide) rfl
          exact ih (t_next + (1 : Int32)) H locs ls hl9 hP9 hD9 hS hwp
  unfold wp_X5_advance at hwp
  obtain ⟨H, hH⟩ : ∃ H, H = s.heap := ⟨_, rfl⟩
  obtain ⟨locs, hlo⟩ : ∃ z : List Loc, z = [] := ⟨_, rfl⟩
  have hP : va_P D vwCl [(q, .inr (5, [.ref q_draft, .int t_code, .int t_place, .ref q_text, .int t_length, .int t_kind, .int t_start, .int t_next, .int t_value])), (q_text, .inl (C 1, 600, .inl t_text))] H := by rw [hH]; exact hP
  have hD : va_D A [(q, .inr (5, [.ref q_draft, .int t_code, .int t_place, .ref q_text, .int t_length, .int t_kind, .int t_start, .int t_next, .int t_value])), (q_text, .inl (C 1, 600, .inl t_text))] := hD
  have hS : va_S A s.heap H locs := by rw [hH, hlo]; exact hS
  suffices K : W p l e (headSpec ws_X5_advance rm_X5_advance).room s m ([.ref q] : List Value).toArray below meth c H locs 0 0 (MQ below (q_X5_advance D C q q_draft q_text t_code t_place t_length t_text Q A) ([.ref q] : List Value).toArray s 0 0 A) (F0 m 0 ls []) from by rw [hH, hlo] at K; exact K
  have hl9 := lv_sub (l' := [(0, .ref q)]) hl [0] rfl
  have hP9 := hP.sub (ws' := [(q, .inr (5, [.ref q_draft, .int t_code, .int t_place, .ref q_text, .int t_length, .int t_kind, .int t_start, .int t_next, .int t_value])), (q_text, .inl (C 1, 600, .inl t_text))]) [0, 1] rfl
  have hD9 := hD.sub (ws' := [(q, .inr (5, [.ref q_draft, .int t_code, .int t_place, .ref q_text, .int t_length, .int t_kind, .int t_start, .int t_next, .int t_value])), (q_text, .inl (C 1, 600, .inl t_text))]) [0, 1] (by decide) rfl
  obtain ⟨nn9, hwp⟩ := hwp
  refine HL0 t_kind t_start t_value _ (fun t_next H locs ls hl hP hD hS hwp => ?_) nn9 t_next H locs ls hl9 hP9 hD9 hS hwp
  refine lv_aload_n hx hb dX5_advance_52 rfl (lv_at hl 0 rfl) ?_
  refine lv_aload_n hx hb dX5_advance_53 rfl (lv_at hl 0 rfl) ?_
  refine va_get (D := D) (ci := 5) (v := .int t_next) (C := RX5) (T := TX5) (N := 9) hx hb hts iwX5 hown hK hP 0 rfl rfl 7 (by decide) (hts (.fieldLink RX5 35 "ParetoDesk$Parser" "next" "I") wd_157) (fun _ h9 => h9) rfl dX5_advance_54 ?_
  refine va_put (D := D) (ci := 5) (v := .int t_next) (ty := .int) (C := RX5) (T := TX5) (N := 9) hx hb hts iwX5 tyX5 tyX5_ok nmX5 hown hK hP hD hS 0 rfl rfl 6 (by decide) (hts (.fieldLink RX5 57 "ParetoDesk$Parser" "start" "I") wd_156) (fun _ h9 => h9) rfl (by decide +kernel) rfl rfl (Nat.le_of_ble_eq_true rfl) dX5_advance_57 (fun H locs hP hD hS => ?_)
  have hP : va_P D vwCl [(q, .inr (5, [.ref q_draft, .int t_code, .int t_place, .ref q_text, .int t_length, .int t_kind, .int t_next, .int t_next, .int t_value])), (q_text, .inl (C 1, 600, .inl t_text))] H := hP
  have hD : va_D A [(q, .inr (5, [.ref q_draft, .int t_code, .int t_place, .ref q_text, .int t_length, .int t_kind, .int t_next, .int t_next, .int t_value])), (q_text, .inl (C 1, 600, .inl t_text))] := hD
  refine lv_aload_n hx hb dX5_advance_60 rfl (lv_at hl 0 rfl) ?_
  refine lv_iconst (v := 0) hx hb dX5_advance_61 (by decide) ?_
  refine va_put (D := D) (ci := 5) (v := .int (0 : Int32)) (ty := .int) (C := RX5) (T := TX5) (N := 9) hx hb hts iwX5 tyX5 tyX5_ok nmX5 hown hK hP hD hS 0 rfl rfl 8 (by decide) (hts (.fieldLink RX5 60 "ParetoDesk$Parser" "value" "I") wd_158) (fun _ h9 => h9) rfl (by decide +kernel) rfl rfl (Nat.le_of_ble_eq_true rfl) dX5_advance_62 (fun H locs hP hD hS => ?_)
  have hP : va_P D vwCl [(q, .inr (5, [.ref q_draft, .int t_code, .int t_place, .ref q_text, .int t_length, .int t_kind, .int t_next, .int t_next, .int (0 : Int32)])), (q_text, .inl (C 1, 600, .inl t_text))] H := hP
  have hD : va_D A [(q, .inr (5, [.ref q_draft, .int t_code, .int t_place, .ref q_text, .int t_length, .int t_kind, .int t_next, .int t_next, .int (0 : Int32)])), (q_text, .inl (C 1, 600, .inl t_text))] := hD
  refine lv_aload_n hx hb dX5_advance_65 rfl (lv_at hl 0 rfl) ?_
  refine va_get (D := D) (ci := 5) (v := .int t_next) (C := RX5) (T := TX5) (N := 9) hx hb hts iwX5 hown hK hP 0 rfl rfl 7 (by decide) (hts (.fieldLink RX5 35 "ParetoDesk$Parser" "next" "I") wd_157) (fun _ h9 => h9) rfl dX5_advance_66 ?_
  refine lv_aload_n hx hb dX5_advance_69 rfl (lv_at hl 0 rfl) ?_
  refine va_get (D := D) (ci := 5) (v := .int t_length) (C := RX5) (T := TX5) (N := 9) hx hb hts iwX5 hown hK hP 0 rfl rfl 4 (by decide) (hts (.fieldLink RX5 32 "ParetoDesk$Parser" "length" "I") wd_154) (fun _ h9 => h9) rfl dX5_advance_70 ?_
  refine lv_icmp_lt (tgt := 84) hx hb dX5_advance_73 (by decide) (fun c73 => ?_) (fun c73 => ?_)
  · have hwp := hwp.1 c73
    refine lv_aload_n hx hb dX5_advance_84 rfl (lv_at hl 0 rfl) ?_
    refine va_get (D := D) (ci := 5) (v := .ref q_text) (C := RX5) (T := TX5) (N := 9) hx hb hts iwX5 hown hK hP 0 rfl rfl 3 (by decide) (hts (.fieldLink RX5 22 "ParetoDesk$Parser" "text" "[B") wd_153) (fun _ h9 => h9) rfl dX5_advance_85 ?_
    refine lv_aload_n hx hb dX5_advance_88 rfl (lv_at hl 0 rfl) ?_
    refine va_get (D := D) (ci := 5) (v := .int t_next) (C := RX5) (T := TX5) (N := 9) hx hb hts iwX5 hown hK hP 0 rfl rfl 7 (by decide) (hts (.fieldLink RX5 35 "ParetoDesk$Parser" "next" "I") wd_157) (fun _ h9 => h9) rfl dX5_advance_89 ?_
    obtain ⟨hi92, hwp⟩ := hwp
    refine va_bald (D := D) hx hb hK hP 1 1 rfl rfl hi92 dX5_advance_92 ?_
    have hPc := hP.sub (ws' := []) [] rfl
    have hDc := hD.sub (ws' := []) [] (by decide) rfl
    have hFc := va_free (wc := []) hD hS hA [] rfl
    refine va_calli (va_runS (As := [.int (t_text t_next.toNatClampNeg)]) (rest := []) ⟨hx, hb, hml, hown, hts⟩ (met_X5_isLetter l D C (t_text t_next.toNatClampNeg) H.size _ hwp) (va_cwS 1 hts gc_X5_63 rfl rfl rfl (by decide +kernel) ⟨Nat.le_of_ble_eq_true rfl, Nat.le_of_ble_eq_true rfl⟩) ⟨fun a U g mk q => by obtain ⟨q0, q1, qP, qK, qD⟩ := q; exact ⟨q0, q1, qP, va_K.moved (u := U) (U := U.calling g mk a) (Vm.Alike.refl U.vm) qK, qD⟩, fun U hU hW => ⟨rfl, by rw [hU], by rw [hU]; exact hPc, va_K.moved hW.alike hK, hDc.weaken (fun _ _ _ _ => trivial)⟩⟩ rfl rfl hl.1 rfl (lv_room (Nat.le_of_ble_eq_true rfl)) dX5_advance_93 ⟨Nat.zero_le _, Nat.zero_le _⟩) hS (fun q _ h => hFc q h) hFc (fun r93 u t H1 locs ht hvm hwp hB hz1 hk1 hS => ?_)
    obtain ⟨hP1, -, hD1⟩ := hB
    rw [ht] at hP1
    obtain ⟨hP, hD⟩ := va_join (wr := [(q, .inr (5, [.ref q_draft, .int t_code, .int t_place, .ref q_text, .int t_length, .int t_kind, .int t_next, .int t_next, .int (0 : Int32)])), (q_text, .inl (C 1, 600, .inl t_text))]) (w1 := []) hP hD [] [0, 1] rfl rfl (by decide) (by decide) hk1 hFc hP1 hD1
    generalize H1 = H at hP hS ⊢
    have hP : va_P D vwCl [(q, .inr (5, [.ref q_draft, .int t_code, .int t_place, .ref q_text, .int t_length, .int t_kind, .int t_next, .int t_next, .int (0 : Int32)])), (q_text, .inl (C 1, 600, .inl t_text))] H := hP
    have hD : va_D A [(q, .inr (5, [.ref q_draft, .int t_code, .int t_place, .ref q_text, .int t_length, .int t_kind, .int t_next, .int t_next, .int (0 : Int32)])), (q_text, .inl (C 1, 600, .inl t_text))] := hD
    refine lv_if_eq (tgt := 143) hx hb dX5_advance_96 (by decide) (fun c96 => ?_) (fun c96 => ?_)
    · have hwp := hwp.1 c96
      refine lv_aload_n hx hb dX5_advance_143 rfl (lv_at hl 0 rfl) ?_
      refine va_get (D := D) (ci := 5) (v := .ref q_text) (C := RX5) (T := TX5) (N := 9) hx hb hts iwX5 hown hK hP 0 rfl rfl 3 (by decide) (hts (.fieldLink RX5 22 "ParetoDesk$Parser" "text" "[B") wd_153) (fun _ h9 => h9) rfl dX5_advance_144 ?_
      refine lv_aload_n hx hb dX5_advance_147 rfl (lv_at hl 0 rfl) ?_
      refine va_get (D := D) (ci := 5) (v := .int t_next) (C := RX5) (T := TX5) (N := 9) hx hb hts iwX5 hown hK hP 0 rfl rfl 7 (by decide) (hts (.fieldLink RX5 35 "ParetoDesk$Parser" "next" "I") wd_157) (fun _ h9 => h9) rfl dX5_advance_148 ?_
      obtain ⟨hi151, hwp⟩ := hwp
      refine va_bald (D := D) hx hb hK hP 1 1 rfl rfl hi151 dX5_advance_151 ?_
      have hPc := hP.sub (ws' := []) [] rfl
      have hDc := hD.sub (ws' := []) [] (by decide) rfl
      have hFc := va_free (wc := []) hD hS hA [] rfl
      refine va_calli (va_runS (As := [.int (t_text t_next.toNatClampNeg)]) (rest := []) ⟨hx, hb, hml, hown, hts⟩ (met_X5_isDigit l D C (t_text t_next.toNatClampNeg) H.size _ hwp) (va_cwS 1 hts gc_X5_67 rfl rfl rfl (by decide +kernel) ⟨Nat.le_of_ble_eq_true rfl, Nat.le_of_ble_eq_true rfl⟩) ⟨fun a U g mk q => by obtain ⟨q0, q1, qP, qK, qD⟩ := q; exact ⟨q0, q1, qP, va_K.moved (u := U) (U := U.calling g mk a) (Vm.Alike.refl U.vm) qK, qD⟩, fun U hU hW => ⟨rfl, by rw [hU], by rw [hU]; exact hPc, va_K.moved hW.alike hK, hDc.weaken (fun _ _ _ _ => trivial)⟩⟩ rfl rfl hl.1 rfl (lv_room (Nat.le_of_ble_eq_true rfl)) dX5_advance_152 ⟨Nat.zero_le _, Nat.zero_le _⟩) hS (fun q _ h => hFc q h) hFc (fun r152 u t H1 locs ht hvm hwp hB hz1 hk1 hS => ?_)
      obtain ⟨hP1, -, hD1⟩ := hB
      rw [ht] at hP1
      obtain ⟨hP, hD⟩ := va_join (wr := [(q, .inr (5, [.ref q_draft, .int t_code, .int t_place, .ref q_text, .int t_length, .int t_kind, .int t_next, .int t_next, .int (0 : Int32)])), (q_text, .inl (C 1, 600, .inl t_text))]) (w1 := []) hP hD [] [0, 1] rfl rfl (by decide) (by decide) hk1 hFc hP1 hD1
      generalize H1 = H at hP hS ⊢
      have hP : va_P D vwCl [(q, .inr (5, [.ref q_draft, .int t_code, .int t_place, .ref q_text, .int t_length, .int t_kind, .int t_next, .int t_next, .int (0 : Int32)])), (q_text, .inl (C 1, 600, .inl t_text))] H := hP
      have hD : va_D A [(q, .inr (5, [.ref q_draft, .int t_code, .int t_place, .ref q_text, .int t_length, .int t_kind, .int t_next, .int t_next, .int (0 : Int32)])), (q_text, .inl (C 1, 600, .inl t_text))] := hD
      refine lv_if_eq (tgt := 231) hx hb dX5_advance_155 (by decide) (fun c155 => ?_) (fun c155 => ?_)
      · have hwp := hwp.1 c155
        refine lv_aload_n hx hb dX5_advance_231 rfl (lv_at hl 0 rfl) ?_
        refine lv_iconst (v := 3) hx hb dX5_advance_232 (by decide) ?_
        refine va_put (D := D) (ci := 5) (v := .int (3 : Int32)) (ty := .int) (C := RX5) (T := TX5) (N := 9) hx hb hts iwX5 tyX5 tyX5_ok nmX5 hown hK hP hD hS 0 rfl rfl 5 (by decide) (hts (.fieldLink RX5 51 "ParetoDesk$Parser" "kind" "I") wd_155) (fun _ h9 => h9) rfl (by decide +kernel) rfl rfl (Nat.le_of_ble_eq_true rfl) dX5_advance_233 (fun H locs hP hD hS => ?_)
        have hP : va_P D vwCl [(q, .inr (5, [.ref q_draft, .int t_code, .int t_place, .ref q_text, .int t_length, .int (3 : Int32), .int t_next, .int t_next, .int (0 : Int32)])), (q_text, .inl (C 1, 600, .inl t_text))] H := hP
        have hD : va_D A [(q, .inr (5, [.ref q_draft, .int t_code, .int t_place, .ref q_text, .int t_length, .int (3 : Int32), .int t_next, .int t_next, .int (0 : Int32)])), (q_text, .inl (C 1, 600, .inl t_text))] := hD
        refine lv_aload_n hx hb dX5_advance_236 rfl (lv_at hl 0 rfl) ?_
        refine lv_dup hx hb dX5_advance_237 rfl ?_
        refine va_get (D := D) (ci := 5) (v := .int t_next) (C := RX5) (T := TX5) (N := 9) hx hb hts iwX5 hown hK hP 0 rfl rfl 7 (by decide) (hts (.fieldLink RX5 35 "ParetoDesk$Parser" "next" "I") wd_157) (fun _ h9 => h9) rfl dX5_advance_238 ?_
        refine lv_iconst (v := 1) hx hb dX5_advance_241 (by decide) ?_
        refine lv_iadd hx hb dX5_advance_242 ?_
        refine va_put (D := D) (ci := 5) (v := .int (t_next + (1 : Int32))) (ty := .int) (C := RX5) (T := TX5) (N := 9) hx hb hts iwX5 tyX5 tyX5_ok nmX5 hown hK hP hD hS 0 rfl rfl 7 (by decide) (hts (.fieldLink RX5 35 "ParetoDesk$Parser" "next" "I") wd_157) (fun _ h9 => h9) rfl (by decide +kernel) rfl rfl (Nat.le_of_ble_eq_true rfl) dX5_advance_243 (fun H locs hP hD hS => ?_)
        have hP : va_P D vwCl [(q, .inr (5, [.ref q_draft, .int t_code, .int t_place, .ref q_text, .int t_length, .int (3 : Int32), .int t_next, .int (t_next + (1 : Int32)), .int (0 : Int32)])), (q_text, .inl (C 1, 600, .inl t_text))] H := hP
        have hD : va_D A [(q, .inr (5, [.ref q_draft, .int t_code, .int t_place, .ref q_text, .int t_length, .int (3 : Int32), .int t_next, .int (t_next + (1 : Int32)), .int (0 : Int32)])), (q_text, .inl (C 1, 600, .inl t_text))] := hD
        have hP9 := hP.sub (ws' := [(q, .inr (5, [.ref q_draft, .int t_code, .int t_place, .ref q_text, .int t_length, .int (3 : Int32), .int t_next, .int (t_next + (1 : Int32)), .int (0 : Int32)])), (q_text, .inl (C 1, 600, .inl t_text))]) [0, 1] rfl
        have hD9 := hD.sub (ws' := [(q, .inr (5, [.ref q_draft, .int t_code, .int t_place, .ref q_text, .int t_length, .int (3 : Int32), .int t_next, .int (t_next + (1 : Int32)), .int (0 : Int32)])), (q_text, .inl (C 1, 600, .inl t_text))]) [0, 1] (by decide) rfl
        exact W.vret hx hb hr (fun t ht hW => ⟨⟨((3 : Int32), t_next, t_next + (1 : Int32), (0 : Int32)), rfl, hwp, by rw [ht]; exact hP9, va_K.moved hW.alike hK, hD9⟩, hS.F ht⟩) hS.2.2 dX5_advance_246
      · have hwp := hwp.2 c155
        refine lv_aload_n hx hb dX5_advance_158 rfl (lv_at hl 0 rfl) ?_
        refine lv_iconst (v := 2) hx hb dX5_advance_159 (by decide) ?_
        refine va_put (D := D) (ci := 5) (v := .int (2 : Int32)) (ty := .int) (C := RX5) (T := TX5) (N := 9) hx hb hts iwX5 tyX5 tyX5_ok nmX5 hown hK hP hD hS 0 rfl rfl 5 (by decide) (hts (.fieldLink RX5 51 "ParetoDesk$Parser" "kind" "I") wd_155) (fun _ h9 => h9) rfl (by decide +kernel) rfl rfl (Nat.le_of_ble_eq_true rfl) dX5_advance_160 (fun H locs hP hD hS => ?_)
        have hP : va_P D vwCl [(q, .inr (5, [.ref q_draft, .int t_code, .int t_place, .ref q_text, .int t_length, .int (2 : Int32), .int t_next, .int t_next, .int (0 : Int32)])), (q_text, .inl (C 1, 600, .inl t_text))] H := hP
        have hD : va_D A [(q, .inr (5, [.ref q_draft, .int t_code, .int t_place, .ref q_text, .int t_length, .int (2 : Int32), .int t_next, .int t_next, .int (0 : Int32)])), (q_text, .inl (C 1, 600, .inl t_text))] := hD
        have hl9 := lv_sub (l' := [(0, .ref q)]) hl [0] rfl
        have hP9 := hP.sub (ws' := [(q, .inr (5, [.ref q_draft, .int t_code, .int t_place, .ref q_text, .int t_length, .int (2 : Int32), .int t_next, .int t_next, .int (0 : Int32)])), (q_text, .inl (C 1, 600, .inl t_text))]) [0, 1] rfl
        have hD9 := hD.sub (ws' := [(q, .inr (5, [.ref q_draft, .int t_code, .int t_place, .ref q_text, .int t_length, .int (2 : Int32), .int t_next, .int t_next, .int (0 : Int32)])), (q_text, .inl (C 1, 600, .inl t_text))]) [0, 1] (by decide) rfl
        obtain ⟨nn9, hwp⟩ := hwp
        refine HL163 (2 : Int32) t_next nn9 t_next (0 : Int32) H locs ls hl9 hP9 hD9 hS hwp
    · have hwp := hwp.2 c96
      refine lv_aload_n hx hb dX5_advance_99 rfl (lv_at hl 0 rfl) ?_
      refine lv_iconst (v := 1) hx hb dX5_advance_100 (by decide) ?_
      refine va_put (D := D) (ci := 5) (v := .int (1 : Int32)) (ty := .int) (C := RX5) (T := TX5) (N := 9) hx hb hts iwX5 tyX5 tyX5_ok nmX5 hown hK hP hD hS 0 rfl rfl 5 (by decide) (hts (.fieldLink RX5 51 "ParetoDesk$Parser" "kind" "I") wd_155) (fun _ h9 => h9) rfl (by decide +kernel) rfl rfl (Nat.le_of_ble_eq_true rfl) dX5_advance_101 (fun H locs hP hD hS => ?_)
      have hP : va_P D vwCl [(q, .inr (5, [.ref q_draft, .int t_code, .int t_place, .ref q_text, .int t_length, .int (1 : Int32), .int t_next, .int t_next, .int (0 : Int32)])), (q_text, .inl (C 1, 600, .inl t_text))] H := hP
      have hD : va_D A [(q, .inr (5, [.ref q_draft, .int t_code, .int t_place, .ref q_text, .int t_length, .int (1 : Int32), .int t_next, .int t_next, .int (0 : Int32)])), (q_text, .inl (C 1, 600, .inl t_text))] := hD
      have hl9 := lv_sub (l' := [(0, .ref q)]) hl [0] rfl
      have hP9 := hP.sub (ws' := [(q, .inr (5, [.ref q_draft, .int t_code, .int t_place, .ref q_text, .int t_length, .int (1 : Int32), .int t_next, .int t_next, .int (0 : Int32)])), (q_text, .inl (C 1, 600, .inl t_text))]) [0, 1] rfl
      have hD9 := hD.sub (ws' := [(q, .inr (5, [.ref q_draft, .int t_code, .int t_place, .ref q_text, .int t_length, .int (1 : Int32), .int t_next, .int t_next, .int (0 : Int32)])), (q_text, .inl (C 1, 600, .inl t_text))]) [0, 1] (by decide) rfl
      obtain ⟨nn9, hwp⟩ := hwp
      refine HL104 (1 : Int32) t_next (0 : Int32) nn9 t_next H locs ls hl9 hP9 hD9 hS hwp
  · have hwp := hwp.2 c73
    refine lv_aload_n hx hb dX5_advance_76 rfl (lv_at hl 0 rfl) ?_
    refine lv_iconst (v := 0) hx hb dX5_advance_77 (by decide) ?_
    refine va_put (D := D) (ci := 5) (v := .int (0 : Int32)) (ty := .int) (C := RX5) (T := TX5) (N := 9) hx hb hts iwX5 tyX5 tyX5_ok nmX5 hown hK hP hD hS 0 rfl rfl 5 (by decide) (hts (.fieldLink RX5 51 "ParetoDesk$Parser" "kind" "I") wd_155) (fun _ h9 => h9) rfl (by decide +kernel) rfl rfl (Nat.le_of_ble_eq_true rfl) dX5_advance_78 (fun H locs hP hD hS => ?_)
    have hP : va_P D vwCl [(q, .inr (5, [.ref q_draft, .int t_code, .int t_place, .ref q_text, .int t_length, .int (0 : Int32), .int t_next, .int t_next, .int (0 : Int32)])), (q_text, .inl (C 1, 600, .inl t_text))] H := hP
    have hD : va_D A [(q, .inr (5, [.ref q_draft, .int t_code, .int t_place, .ref q_text, .int t_length, .int (0 : Int32), .int t_next, .int t_next, .int (0 : Int32)])), (q_text, .inl (C 1, 600, .inl t_text))] := hD
    refine lv_goto (tgt := 246) hx hb dX5_advance_81 (by decide) ?_
    have hP9 := hP.sub (ws' := [(q, .inr (5, [.ref q_draft, .int t_code, .int t_place, .ref q_text, .int t_length, .int (0 : Int32), .int t_next, .int t_next, .int (0 : Int32)])), (q_text, .inl (C 1, 600, .inl t_text))]) [0, 1] rfl
    have hD9 := hD.sub (ws' := [(q, .inr (5, [.ref q_draft, .int t_code, .int t_place, .ref q_text, .int t_length, .int (0 : Int32), .int t_next, .int t_next, .int (0 : Int32)])), (q_text, .inl (C 1, 600, .inl t_text))]) [0, 1] (by decide) rfl
    exact W.vret hx hb hr (fun t ht hW => ⟨⟨((0 : Int32), t_next, t_next, (0 : Int32)), rfl, hwp, by rw [ht]; exact hP9, va_K.moved hW.alike hK, hD9⟩, hS.F ht⟩) hS.2.2 dX5_advance_246
abbrev ws_X5_passEnd : List Cond := .code yX5_passEnd cX5_passEnd 1 (some .boolean) :: WALL
theorem gc_X5_90 : GoodIn WALL (wsV RX5 90 RX5 yX5_fail ws_X5_fail) := gc_v wd_922 wd_924 wd_8 wd_36 wd_925
theorem gc_X5_44 : GoodIn WALL (wsV RX5 44 RX5 yX5_advance ws_X5_advance) := gc_v wd_895 wd_897 wd_4 wd_36 wd_898
abbrev rm_X5_passEnd : Room := { frames := 2, cells := 0, slots := 0, locals := 41 }
abbrev w_X5_passEnd (C : Nat → ClassId) (q : Nat) (q_draft : Nat) (q_text : Nat) (t_code : Int32) (t_place : Int32) (t_length : Int32) (t_kind : Int32) (t_start : Int32) (t_next : Int32) (t_value : Int32) (t_text : Nat → Int32) : va_W := [(q, .inr (5, [.ref q_draft, .int t_code, .int t_place, .ref q_text, .int t_length, .int t_kind, .int t_start, .int t_next, .int t_value])), (q_text, .inl (C 1, 600, .inl t_text))]
abbrev q_X5_passEnd (D : va_G) (C : Nat → ClassId) (q : Nat) (q_draft : Nat) (q_text : Nat) (t_length : Int32) (t_text : Nat → Int32) (Q : Int32 → Int32 → Int32 → Int32 → Int32 → Int32 → Int32 → Prop) (A : Nat → Prop) : Array Value → State → Outcome → State → Prop := va_Qi (fun (r : Int32) (u : Int32 × Int32 × Int32 × Int32 × Int32 × Int32) => Q r u.1 u.2.1 u.2.2.1 u.2.2.2.1 u.2.2.2.2.1 u.2.2.2.2.2) (fun (u : Int32 × Int32 × Int32 × Int32 × Int32 × Int32) (t : State) => va_P D vwCl (w_X5_passEnd C q q_draft q_text u.1 u.2.1 t_length u.2.2.1 u.2.2.2.1 u.2.2.2.2.1 u.2.2.2.2.2 t_text) t.heap ∧ va_K D vwCl (tyL C) t ∧ va_D A (w_X5_passEnd C q q_draft q_text u.1 u.2.1 t_length u.2.2.1 u.2.2.2.1 u.2.2.2.2.1 u.2.2.2.2.2 t_text)) A
set_option maxHeartbeats 4000000 in
set_option maxRecDepth 100000 in
theorem met_X5_passEnd (l : Launch) (D : va_G) (C : Nat → ClassId) (q : Nat) (q_draft : Nat) (q_text : Nat) (t_code : Int32) (t_place : Int32) (t_length : Int32) (t_kind : Int32) (t_start : Int32) (t_next : Int32) (t_value : Int32) (t_text : Nat → Int32) (sz : Nat) (Q : Int32 → Int32 → Int32 → Int32 → Int32 → Int32 → Int32 → Prop) (hwp : wp_X5_passEnd t_code t_place t_length t_kind t_start t_next t_value t_text Q) : Met l yX5_passEnd ws_X5_passEnd rm_X5_passEnd (va_Pc [.ref q] (fun U => U.heap.size = sz ∧ va_P D vwCl (w_X5_passEnd C q q_draft q_text t_code t_place t_length t_kind t_start t_next t_value t_text) U.heap ∧ va_K D vwCl (tyL C) U ∧ va_D (fun _ => True) (w_X5_passEnd C q q_draft q_text t_code t_place t_length t_kind t_start t_next t_value t_text))) (q_X5_passEnd D C q q_draft q_text t_length t_text Q (va_A (w_X5_passEnd C q q_draft q_text t_code t_place t_length t_kind t_start t_next t_value t_text) sz)) 0 0 (va_A (w_X5_passEnd C q q_draft q_text t_code t_place t_length t_kind t_start t_next t_value t_text) sz) := by
  refine Met.ofW (cc := cX5_passEnd) (maxL := 1) (ret := (some .boolean)) (by decide) rfl ?_
  intro p e s m args below meth c s₁ B hml hv
  obtain ⟨rfl, hsz, hP, hK, hD0⟩ := hv
  have hx := B.exec
  have hb := B.bytes
  have hr := B.returns
  have hts : ∀ w ∈ WALL, w.before _ s = true := fun w h => atoms_spec (ws := ws_X5_passEnd) B.pre w (List.mem_cons_of_mem _ h)
  have hown : s.vm.findClass RX5 = some m.cls := findClass_of_methodNamed B.named
  have hlocks := B.notSynchronized
  subst hsz
  have hD := hD0.self (sz := s.heap.size)
  generalize hAe : va_A (w_X5_passEnd C q q_draft q_text t_code t_place t_length t_kind t_start t_next t_value t_text) s.heap.size = A at hD ⊢
  have hA : ∀ q : Nat, s.heap.size ≤ q → A q := fun q h => by rw [← hAe]; exact Or.inr h
  have hS : va_S A s.heap s.heap [] := va_S.rf
  have hl := lv_entry ([.ref q]) (n := 1) (Nat.le_of_ble_eq_true rfl)
  rw [lg_entry_eq]
  generalize (lg_sl ([.ref q]) ++ List.replicate (1 - (lg_sl ([.ref q])).length) Slot.unset).toArray = ls at hl ⊢
  have hl : lv_has ls 1 [(0, .ref q)] := hl
  have HB33 : ∀  (t_code : Int32) (t_place : Int32) (t_kind : Int32) (t_start : Int32) (t_next : Int32) (t_value : Int32) (H : Heap) (locs : List Loc) (ls : Array Slot), lv_has ls 1 [(0, .ref q)] → va_P D vwCl [(q, .inr (5, [.ref q_draft, .int t_code, .int t_place, .ref q_text, .int t_length, .int t_kind, .int t_start, .int t_next, .int t_value])), (q_text, .inl (C 1, 600, .inl t_text))] H → va_D A [(q, .inr (5, [.ref q_draft, .int t_code, .int t_place, .ref q_text, .int t_length, .int t_kind, .int t_start, .int t_next, .int t_value])), (q_text, .inl (C 1, 600, .inl t_text))] → va_S A s.heap H locs → wp_X5_passEnd_b33 t_length t_text Q t_code t_place t_kind t_start t_next t_value → W p l e (headSpec ws_X5_passEnd rm_X5_passEnd).room s m ([.ref q] : List Value).toArray below meth c H locs 0 0 (MQ below (q_X5_passEnd D C q q_draft q_text t_length t_text Q A) ([.ref q] : List Value).toArray s 0 0 A) (F0 m 33 ls []) := by
    intro t_code t_place t_kind t_start t_next t_value H locs ls hl hP hD hS hwp
    unfold wp_X5_passEnd_b33 at hwp
    refine lv_aload_n hx hb dX5_passEnd_33 rfl (lv_at hl 0 rfl) ?_
    refine lv_iconst (v := 1) hx hb dX5_passEnd_34 (by decide) ?_
    have hPc := hP.sub (ws' := [(q, .inr (5, [.ref q_draft, .int t_code, .int t_place, .ref q_text, .int t_length, .int t_kind, .int t_start, .int t_next, .int t_value]))]) [0] rfl
    have hDc := hD.sub (ws' := [(q, .inr (5, [.ref q_draft, .int t_code, .int t_place, .ref q_text, .int t_length, .int t_kind, .int t_start, .int t_next, .int t_value]))]) [0] (by decide) rfl
    have hFc := va_free (wc := [(q, .inr (5, [.ref q_draft, .int t_code, .int t_place, .ref q_text, .int t_length, .int t_kind, .int t_start, .int t_next, .int t_value]))]) hD hS hA [0] rfl
    refine va_calli (va_runV (As := [.int (1 : Int32)]) (rest := []) ⟨hx, hb, hml, hown, hts⟩ (met_X5_fail l D C q q_draft q_text (1 : Int32) t_code t_place t_length t_kind t_start t_next t_value H.size _ hwp) (cwV 1 hts gc_X5_90 rfl rfl rfl (by decide +kernel) ⟨Nat.le_of_ble_eq_true rfl, Nat.le_of_ble_eq_true rfl⟩) ⟨fun a U g mk q => by obtain ⟨q0, q1, qP, qK, qD⟩ := q; exact ⟨q0, q1, qP, va_K.moved (u := U) (U := U.calling g mk a) (Vm.Alike.refl U.vm) qK, qD⟩, va_recv hK hPc (ci := 5) (q0 := 0) rfl rfl, fun U hU hW => ⟨rfl, by rw [hU], by rw [hU]; exact hPc, va_K.moved hW.alike hK, hDc.weaken (fun _ _ _ _ => trivial)⟩⟩ rfl rfl hl.1 rfl (lv_room (Nat.le_of_ble_eq_true rfl)) dX5_passEnd_35 ⟨Nat.zero_le _, Nat.zero_le _⟩) hS (fun q _ h => hFc q h) hFc (fun r35 u t H1 locs ht hvm hwp hB hz1 hk1 hS => ?_)
    obtain ⟨u35_1, u35_2⟩ := u
    obtain ⟨hP1, -, hD1⟩ := hB
    rw [ht] at hP1
    obtain ⟨hP, hD⟩ := va_join (wr := [(q_text, .inl (C 1, 600, .inl t_text))]) (w1 := [(q, .inr (5, [.ref q_draft, .int u35_1, .int u35_2, .ref q_text, .int t_length, .int t_kind, .int t_start, .int t_next, .int t_value]))]) hP hD [0] [1] rfl rfl (by decide) (by decide) hk1 hFc hP1 hD1
    generalize H1 = H at hP hS ⊢
    have hP : va_P D vwCl [(q_text, .inl (C 1, 600, .inl t_text)), (q, .inr (5, [.ref q_draft, .int u35_1, .int u35_2, .ref q_text, .int t_length, .int t_kind, .int t_start, .int t_next, .int t_value]))] H := hP
    have hD : va_D A [(q_text, .inl (C 1, 600, .inl t_text)), (q, .inr (5, [.ref q_draft, .int u35_1, .int u35_2, .ref q_text, .int t_length, .int t_kind, .int t_start, .int t_next, .int t_value]))] := hD
    have hP9 := hP.sub (ws' := [(q, .inr (5, [.ref q_draft, .int u35_1, .int u35_2, .ref q_text, .int t_length, .int t_kind, .int t_start, .int t_next, .int t_value])), (q_text, .inl (C 1, 600, .inl t_text))]) [1, 0] rfl
    have hD9 := hD.sub (ws' := [(q, .inr (5, [.ref q_draft, .int u35_1, .int u35_2, .ref q_text, .int t_length, .int t_kind, .int t_start, .int t_next, .int t_value])), (q_text, .inl (C 1, 600, .inl t_text))]) [1, 0] (by decide) rfl
    obtain ⟨hn9, hwp⟩ := hwp
    exact W.zret (v := r35) (ty := .boolean) hx hb hr hn9 (fun t ht hW => ⟨⟨r35, (u35_1, u35_2, t_kind, t_start, t_next, t_value), rfl, hwp, by rw [ht]; exact hP9, va_K.moved hW.alike hK, hD9⟩, hS.F ht⟩) hS.2.2 dX5_passEnd_38
  unfold wp_X5_passEnd at hwp
  obtain ⟨H, hH⟩ : ∃ H, H = s.heap := ⟨_, rfl⟩
  obtain ⟨locs, hlo⟩ : ∃ z : List Loc, z = [] := ⟨_, rfl⟩
  have hP : va_P D vwCl [(q, .inr (5, [.ref q_draft, .int t_code, .int t_place, .ref q_text, .int t_length, .int t_kind, .int t_start, .int t_next, .int t_value])), (q_text, .inl (C 1, 600, .inl t_text))] H := by rw [hH]; exact hP
  have hD : va_D A [(q, .inr (5, [.ref q_draft, .int t_code, .int t_place, .ref q_text, .int t_length, .int t_kind, .int t_start, .int t_next, .int t_value])), (q_text, .inl (C 1, 600, .inl t_text))] := hD
  have hS : va_S A s.heap H locs := by rw [hH, hlo]; exact hS
  suffices K : W p l e (headSpec ws_X5_passEnd rm_X5_passEnd).room s m ([.ref q] : List Value).toArray below meth c H locs 0 0 (MQ below (q_X5_passEnd D C q q_draft q_text t_length t_text Q A) ([.ref q] : List Value).toArray s 0 0 A) (F0 m 0 ls []) from by rw [hH, hlo] at K; exact K
  refine lv_aload_n hx hb dX5_passEnd_0 rfl (lv_at hl 0 rfl) ?_
  refine va_get (D := D) (ci := 5) (v := .int t_kind) (C := RX5) (T := TX5) (N := 9) hx hb hts iwX5 hown hK hP 0 rfl rfl 5 (by decide) (hts (.fieldLink RX5 51 "ParetoDesk$Parser" "kind" "I") wd_155) (fun _ h9 => h9) rfl dX5_passEnd_1 ?_
  refine lv_iconst (v := 3) hx hb dX5_passEnd_4 (by decide) ?_
  refine lv_icmp_ne (tgt := 33) hx hb dX5_passEnd_5 (by decide) (fun c5 => ?_) (fun c5 => ?_)
  · have hwp := hwp.1 c5
    have hl9 := lv_sub (l' := [(0, .ref q)]) hl [0] rfl
    have hP9 := hP.sub (ws' := [(q, .inr (5, [.ref q_draft, .int t_code, .int t_place, .ref q_text, .int t_length, .int t_kind, .int t_start, .int t_next, .int t_value])), (q_text, .inl (C 1, 600, .inl t_text))]) [0, 1] rfl
    have hD9 := hD.sub (ws' := [(q, .inr (5, [.ref q_draft, .int t_code, .int t_place, .ref q_text, .int t_length, .int t_kind, .int t_start, .int t_next, .int t_value])), (q_text, .inl (C 1, 600, .inl t_text))]) [0, 1] (by decide) rfl
    exact HB33 t_code t_place t_kind t_start t_next t_value H locs ls hl9 hP9 hD9 hS hwp
  · have hwp := hwp.2 c5
    refine lv_aload_n hx hb dX5_passEnd_8 rfl (lv_at hl 0 rfl) ?_
    refine va_get (D := D) (ci := 5) (v := .int t_start) (C := RX5) (T := TX5) (N := 9) hx hb hts iwX5 hown hK hP 0 rfl rfl 6 (by decide) (hts (.fieldLink RX5 57 "ParetoDesk$Parser" "start" "I") wd_156) (fun _ h9 => h9) rfl dX5_passEnd_9 ?_
    refine lv_aload_n hx hb dX5_passEnd_12 rfl (lv_at hl 0 rfl) ?_
    refine va_get (D := D) (ci := 5) (v := .int t_length) (C := RX5) (T := TX5) (N := 9) hx hb hts iwX5 hown hK hP 0 rfl rfl 4 (by decide) (hts (.fieldLink RX5 32 "ParetoDesk$Parser" "length" "I") wd_154) (fun _ h9 => h9) rfl dX5_passEnd_13 ?_
    refine lv_icmp_ge (tgt := 33) hx hb dX5_passEnd_16 (by decide) (fun c16 => ?_) (fun c16 => ?_)
    · have hwp := hwp.1 c16
      have hl9 := lv_sub (l' := [(0, .ref q)]) hl [0] rfl
      have hP9 := hP.sub (ws' := [(q, .inr (5, [.ref q_draft, .int t_code, .int t_place, .ref q_text, .int t_length, .int t_kind, .int t_start, .int t_next, .int t_value])), (q_text, .inl (C 1, 600, .inl t_text))]) [0, 1] rfl
      have hD9 := hD.sub (ws' := [(q, .inr (5, [.ref q_draft, .int t_code, .int t_place, .ref q_text, .int t_length, .int t_kind, .int t_start, .int t_next, .int t_value])), (q_text, .inl (C 1, 600, .inl t_text))]) [0, 1] (by decide) rfl
      exact HB33 t_code t_place t_kind t_start t_next t_value H locs ls hl9 hP9 hD9 hS hwp
    · have hwp := hwp.2 c16
      refine lv_aload_n hx hb dX5_passEnd_19 rfl (lv_at hl 0 rfl) ?_
      refine va_get (D := D) (ci := 5) (v := .ref q_text) (C := RX5) (T := TX5) (N := 9) hx hb hts iwX5 hown hK hP 0 rfl rfl 3 (by decide) (hts (.fieldLink RX5 22 "ParetoDesk$Parser" "text" "[B") wd_153) (fun _ h9 => h9) rfl dX5_passEnd_20 ?_
      refine lv_aload_n hx hb dX5_passEnd_23 rfl (lv_at hl 0 rfl) ?_
      refine va_get (D := D) (ci := 5) (v := .int t_start) (C := RX5) (T := TX5) (N := 9) hx hb hts iwX5 hown hK hP 0 rfl rfl 6 (by decide) (hts (.fieldLink RX5 57 "ParetoDesk$Parser" "start" "I") wd_156) (fun _ h9 => h9) rfl dX5_passEnd_24 ?_
      obtain ⟨hi27, hwp⟩ := hwp
      refine va_bald (D := D) hx hb hK hP 1 1 rfl rfl hi27 dX5_passEnd_27 ?_
      refine lv_bipush (v := 59) hx hb dX5_passEnd_28 (by decide) ?_
      refine lv_icmp_eq (tgt := 39) hx hb dX5_passEnd_30 (by decide) (fun c30 => ?_) (fun c30 => ?_)
      · have hwp := hwp.1 c30
        refine lv_aload_n hx hb dX5_passEnd_39 rfl (lv_at hl 0 rfl) ?_
        have hPc := hP.sub (ws' := [(q, .inr (5, [.ref q_draft, .int t_code, .int t_place, .ref q_text, .int t_length, .int t_kind, .int t_start, .int t_next, .int t_value])), (q_text, .inl (C 1, 600, .inl t_text))]) [0, 1] rfl
        have hDc := hD.sub (ws' := [(q, .inr (5, [.ref q_draft, .int t_code, .int t_place, .ref q_text, .int t_length, .int t_kind, .int t_start, .int t_next, .int t_value])), (q_text, .inl (C 1, 600, .inl t_text))]) [0, 1] (by decide) rfl
        have hFc := va_free (wc := [(q, .inr (5, [.ref q_draft, .int t_code, .int t_place, .ref q_text, .int t_length, .int t_kind, .int t_start, .int t_next, .int t_value])), (q_text, .inl (C 1, 600, .inl t_text))]) hD hS hA [0, 1] rfl
        refine va_callv (va_runV (As := []) (rest := []) ⟨hx, hb, hml, hown, hts⟩ (met_X5_advance l D C q q_draft q_text t_code t_place t_length t_kind t_start t_next t_value t_text H.size _ hwp) (cwV 0 hts gc_X5_44 rfl rfl rfl (by decide +kernel) ⟨Nat.le_of_ble_eq_true rfl, Nat.le_of_ble_eq_true rfl⟩) ⟨fun a U g mk q => by obtain ⟨q0, q1, qP, qK, qD⟩ := q; exact ⟨q0, q1, qP, va_K.moved (u := U) (U := U.calling g mk a) (Vm.Alike.refl U.vm) qK, qD⟩, va_recv hK hPc (ci := 5) (q0 := 0) rfl rfl, fun U hU hW => ⟨rfl, by rw [hU], by rw [hU]; exact hPc, va_K.moved hW.alike hK, hDc.weaken (fun _ _ _ _ => trivial)⟩⟩ rfl rfl hl.1 rfl (lv_room (Nat.le_of_ble_eq_true rfl)) dX5_passEnd_40 ⟨Nat.zero_le _, Nat.zero_le _⟩) hS (fun q _ h => hFc q h) hFc (fun u t H1 locs ht hvm hwp hB hz1 hk1 hS => ?_)
        obtain ⟨u40_3, u40_4, u40_5, u40_6⟩ := u
        obtain ⟨hP1, -, hD1⟩ := hB
        rw [ht] at hP1
        obtain ⟨hP, hD⟩ := va_join (wr := []) (w1 := [(q, .inr (5, [.ref q_draft, .int t_code, .int t_place, .ref q_text, .int t_length, .int u40_3, .int u40_4, .int u40_5, .int u40_6])), (q_text, .inl (C 1, 600, .inl t_text))]) hP hD [0, 1] [] rfl rfl (by decide) (by decide) hk1 hFc hP1 hD1
        generalize H1 = H at hP hS ⊢
        have hP : va_P D vwCl [(q, .inr (5, [.ref q_draft, .int t_code, .int t_place, .ref q_text, .int t_length, .int u40_3, .int u40_4, .int u40_5, .int u40_6])), (q_text, .inl (C 1, 600, .inl t_text))] H := hP
        have hD : va_D A [(q, .inr (5, [.ref q_draft, .int t_code, .int t_place, .ref q_text, .int t_length, .int u40_3, .int u40_4, .int u40_5, .int u40_6])), (q_text, .inl (C 1, 600, .inl t_text))] := hD
        refine lv_iconst (v := 1) hx hb dX5_passEnd_43 (by decide) ?_
        have hP9 := hP.sub (ws' := [(q, .inr (5, [.ref q_draft, .int t_code, .int t_place, .ref q_text, .int t_length, .int u40_3, .int u40_4, .int u40_5, .int u40_6])), (q_text, .inl (C 1, 600, .inl t_text))]) [0, 1] rfl
        have hD9 := hD.sub (ws' := [(q, .inr (5, [.ref q_draft, .int t_code, .int t_place, .ref q_text, .int t_length, .int u40_3, .int u40_4, .int u40_5, .int u40_6])), (q_text, .inl (C 1, 600, .inl t_text))]) [0, 1] (by decide) rfl
        exact W.zret (v := (1 : Int32)) (ty := .boolean) hx hb hr rfl (fun t ht hW => ⟨⟨(1 : Int32), (t_code, t_place, u40_3, u40_4, u40_5, u40_6), rfl, hwp, by rw [ht]; exact hP9, va_K.moved hW.alike hK, hD9⟩, hS.F ht⟩) hS.2.2 dX5_passEnd_44
      · have hwp := hwp.2 c30
        have hl9 := lv_sub (l' := [(0, .ref q)]) hl [0] rfl
        have hP9 := hP.sub (ws' := [(q, .inr (5, [.ref q_draft, .int t_code, .int t_place, .ref q_text, .int t_length, .int t_kind, .int t_start, .int t_next, .int t_value])), (q_text, .inl (C 1, 600, .inl t_text))]) [0, 1] rfl
        have hD9 := hD.sub (ws' := [(q, .inr (5, [.ref q_draft, .int t_code, .int t_place, .ref q_text, .int t_length, .int t_kind, .int t_start, .int t_next, .int t_value])), (q_text, .inl (C 1, 600, .inl t_text))]) [0, 1] (by decide) rfl
        exact HB33 t_code t_place t_kind t_start t_next t_value H locs ls hl9 hP9 hD9 hS hwp
