abbrev ws_L_points : List Cond := .code yL_points cL_points 18 (some .boolean) :: WALL
theorem gc_L_120 : GoodIn WALL (wsV RL 120 RX10 yX10_refusal ws_X10_refusal) := gc_v wd_1020 wd_1021 wd_1022 wd_35 wd_1023
theorem gc_L_122 : GoodIn WALL (wsV RL 122 RX10 yX10_sum ws_X10_sum) := gc_v wd_1107 wd_1108 wd_1109 wd_35 wd_1110
theorem gc_L_124 : GoodIn WALL (wsV RL 124 RX10 yX10_allowed ws_X10_allowed) := gc_v wd_1111 wd_1112 wd_1113 wd_35 wd_1114
theorem gc_L_137 : GoodIn WALL (wsV RL 137 RX10 yX10_lightest ws_X10_lightest) := gc_v wd_1131 wd_1132 wd_1133 wd_35 wd_1134
theorem gc_L_140 : GoodIn WALL (wsV RL 140 RX10 yX10_area ws_X10_area) := gc_v wd_1135 wd_1136 wd_1137 wd_35 wd_1138
theorem gc_L_143 : GoodIn WALL (wsV RL 143 RX10 yX10_share ws_X10_share) := gc_v wd_1139 wd_1140 wd_1141 wd_35 wd_1142
theorem gc_L_147 : GoodIn WALL (va_wsS RL 147 yL_layers ws_L_layers) := gc_s wd_1143 wd_1144 wd_34 wd_1145
theorem gc_L_151 : GoodIn WALL (va_wsS RL 151 yL_asks ws_L_asks) := gc_s wd_1192 wd_1193 wd_34 wd_1194
abbrev rm_L_points : Room := { frames := 11, cells := 8, slots := 2048, locals := 209 }
abbrev w_L_points (C : Nat → ClassId) (ad : Nat → Nat) (d : DT) : va_W := ([] ++ wK C ad d)
abbrev q_L_points (D : va_G) (C : Nat → ClassId) (ad : Nat → Nat) (Q : Int32 → DT → Prop) (A : Nat → Prop) : Array Value → State → Outcome → State → Prop := va_Qi (fun (r : Int32) (u : DT) => Q r u) (fun (u : DT) (t : State) => va_P D vwCl (w_L_points C ad u) t.heap ∧ va_K D vwCl (tyL C) t ∧ va_D A (w_L_points C ad u)) A
set_option maxHeartbeats 4000000 in
set_option maxRecDepth 100000 in
theorem met_L_points (l : Launch) (hst : l.stackTraces = false) (D : va_G) (C : Nat → ClassId) (ad : Nat → Nat) (d : DT) (sz : Nat) (Q : Int32 → DT → Prop) (hwp : wp_L_points d Q) : Met l yL_points ws_L_points rm_L_points (va_Pc [.ref (ad 0)] (fun U => U.heap.size = sz ∧ va_P D vwCl (w_L_points C ad d) U.heap ∧ va_K D vwCl (tyL C) U ∧ va_D (fun _ => True) (w_L_points C ad d) ∧ TX (va_A (w_L_points C ad d) sz) U U.heap)) (q_L_points D C ad Q (va_A (w_L_points C ad d) sz)) 8 2048 (va_A (w_L_points C ad d) sz) := by
  refine Met.ofW (cc := cL_points) (maxL := 18) (ret := (some .boolean)) (by decide) rfl ?_
  intro p e s m args below meth c s₁ B hml hv
  obtain ⟨rfl, hsz, hP, hK, hD0, hT⟩ := hv
  have hx := B.exec
  have hb := B.bytes
  have hr := B.returns
  have hts : ∀ w ∈ WALL, w.before _ s = true := fun w h => atoms_spec (ws := ws_L_points) B.pre w (List.mem_cons_of_mem _ h)
  have hown : s.vm.findClass RL = some m.cls := findClass_of_methodNamed B.named
  have hlocks := B.notSynchronized
  subst hsz
  have hD := hD0.self (sz := s.heap.size)
  generalize hAe : va_A (w_L_points C ad d) s.heap.size = A at hD ⊢ hT
  have hA : ∀ q : Nat, s.heap.size ≤ q → A q := fun q h => by rw [← hAe]; exact Or.inr h
  have hS : va_S A s.heap s.heap [] := va_S.rf
  have hl := lv_entry ([.ref (ad 0)]) (n := 18) (Nat.le_of_ble_eq_true rfl)
  rw [lg_entry_eq]
  generalize (lg_sl ([.ref (ad 0)]) ++ List.replicate (18 - (lg_sl ([.ref (ad 0)])).length) Slot.unset).toArray = ls at hl ⊢
  have hl : lv_has ls 18 [(0, .ref (ad 0))] := hl
  have HL160 : ∀ (a13 : Nat) (a19 : Nat) (a26 : Nat) (a33 : Nat) (a40 : Nat) (x1 : Int32) (x2 : Int32) (x8 : Int32) (x9 : Int32) (x11 : Int32) (x12 : Int32) (d : DT) (ta13 : Nat → Int32) (ta19 : Nat → Int32) (ta26 : Nat → Int32) (ta33 : Nat → Int32) (ta40 : Nat → Int32) (k192 : Int32 → Prop) (hk192 : ∀ (x13 : Int32) (H : Heap) (locs : List Loc) (ls : Array Slot), lv_has ls 18 [(0, .ref (ad 0)), (1, .int x1), (2, .int x2), (3, .ref a13), (4, .ref a19), (5, .ref a26), (6, .ref a33), (7, .ref a40), (8, .int x8), (9, .int x9), (11, .int x11), (12, .int x12), (13, .int x13)] → va_P D vwCl ([(a13, .inl (C 0, 256, .inl ta13)), (a19, .inl (C 0, 256, .inl ta19)), (a26, .inl (C 0, 256, .inl ta26)), (a33, .inl (C 0, 256, .inl ta33)), (a40, .inl (C 0, 256, .inl ta40))] ++ wK C ad d) H → va_D A ([(a13, .inl (C 0, 256, .inl ta13)), (a19, .inl (C 0, 256, .inl ta19)), (a26, .inl (C 0, 256, .inl ta26)), (a33, .inl (C 0, 256, .inl ta33)), (a40, .inl (C 0, 256, .inl ta40))] ++ wK C ad d) → va_S A s.heap H locs → k192 x13 → W p l e (headSpec ws_L_points rm_L_points).room s m ([.ref (ad 0)] : List Value).toArray below meth c H locs 5 1280 (MQ below (q_L_points D C ad Q A) ([.ref (ad 0)] : List Value).toArray s 8 2048 A) (F0 m 192 ls [])) (n160 : Nat) (x13 : Int32) (H : Heap) (locs : List Loc) (ls : Array Slot), lv_has ls 18 [(0, .ref (ad 0)), (1, .int x1), (2, .int x2), (3, .ref a13), (4, .ref a19), (5, .ref a26), (6, .ref a33), (7, .ref a40), (8, .int x8), (9, .int x9), (11, .int x11), (12, .int x12), (13, .int x13)] → va_P D vwCl ([(a13, .inl (C 0, 256, .inl ta13)), (a19, .inl (C 0, 256, .inl ta19)), (a26, .inl (C 0, 256, .inl ta26)), (a33, .inl (C 0, 256, .inl ta33)), (a40, .inl (C 0, 256, .inl ta40))] ++ wK C ad d) H → va_D A ([(a13, .inl (C 0, 256, .inl ta13)), (a19, .inl (C 0, 256, .inl ta19)), (a26, .inl (C 0, 256, .inl ta26)), (a33, .inl (C 0, 256, .inl ta33)), (a40, .inl (C 0, 256, .inl ta40))] ++ wK C ad d) → va_S A s.heap H locs → wp_L_points_L160 x1 x2 x8 x9 x11 x12 d ta13 ta19 ta26 ta33 ta40 k192 Q n160 x13 → W p l e (headSpec ws_L_points rm_L_points).room s m ([.ref (ad 0)] : List Value).toArray below meth c H locs 5 1280 (MQ below (q_L_points D C ad Q A) ([.ref (ad 0)] : List Value).toArray s 8 2048 A) (F0 m 160 ls []) := by
    intro a13 a19 a26 a33 a40 x1 x2 x8 x9 x11 x12 d ta13 ta19 ta26 ta33 ta40 k192 hk192 n160
    induction n160 with
    | zero =>
      intro x13 H locs ls hl hP hD hS hwp
      exact False.elim hwp
    | succ n160 ih =>
      intro x13 H locs ls hl hP hD hS hwp
      unfold wp_L_points_L160 at hwp
      refine lv_iload hx hb dL_points_160 (lv_at hl 12 rfl) ?_
      refine lv_iload hx hb dL_points_162 (lv_at hl 8 rfl) ?_
      refine lv_icmp_ge (tgt := 192) hx hb dL_points_164 (by decide) (fun c164 => ?_) (fun c164 => ?_)
      · have hwp := hwp.1 c164
        have hl9 := lv_sub (l' := [(0, .ref (ad 0)), (1, .int x1), (2, .int x2), (3, .ref a13), (4, .ref a19), (5, .ref a26), (6, .ref a33), (7, .ref a40), (8, .int x8), (9, .int x9), (11, .int x11), (12, .int x12), (13, .int x13)]) hl [0, 1, 2, 3, 4, 5, 6, 7, 8, 9, 10, 11, 12] rfl
        have hP9 : va_P D vwCl ([(a13, .inl (C 0, 256, .inl ta13)), (a19, .inl (C 0, 256, .inl ta19)), (a26, .inl (C 0, 256, .inl ta26)), (a33, .inl (C 0, 256, .inl ta33)), (a40, .inl (C 0, 256, .inl ta40))] ++ wK C ad d) H := bd_P (lc := [(a13, .inl (C 0, 256, .inl ta13)), (a19, .inl (C 0, 256, .inl ta19)), (a26, .inl (C 0, 256, .inl ta26)), (a33, .inl (C 0, 256, .inl ta33)), (a40, .inl (C 0, 256, .inl ta40))]) hP [0, 1, 2, 3, 4] rfl
        have hD9 : va_D A ([(a13, .inl (C 0, 256, .inl ta13)), (a19, .inl (C 0, 256, .inl ta19)), (a26, .inl (C 0, 256, .inl ta26)), (a33, .inl (C 0, 256, .inl ta33)), (a40, .inl (C 0, 256, .inl ta40))] ++ wK C ad d) := bd_D (lc := [(a13, .inl (C 0, 256, .inl ta13)), (a19, .inl (C 0, 256, .inl ta19)), (a26, .inl (C 0, 256, .inl ta26)), (a33, .inl (C 0, 256, .inl ta33)), (a40, .inl (C 0, 256, .inl ta40))]) hD [0, 1, 2, 3, 4] rfl (by decide)
        exact hk192 x13 H locs ls hl9 hP9 hD9 hS hwp
      · have hwp := hwp.2 c164
        refine lv_aload_n hx hb dL_points_167 rfl (lv_at hl 3 rfl) ?_
        refine lv_iload hx hb dL_points_168 (lv_at hl 12 rfl) ?_
        obtain ⟨hi170, hwp⟩ := hwp
        refine va_iald (D := D) hx hb hK hP 0 0 rfl rfl hi170 dL_points_170 ?_
        refine lv_iload hx hb dL_points_171 (lv_at hl 10 rfl) ?_
        refine lv_icmp_ne (tgt := 186) hx hb dL_points_173 (by decide) (fun c173 => ?_) (fun c173 => ?_)
        · have hwp := hwp.1 c173
          refine lv_iinc (v := x13 + 1) (lv' := [(13, .int (x13 + 1)), (0, .ref (ad 0)), (1, .int x1), (2, .int x2), (3, .ref a13), (4, .ref a19), (5, .ref a26), (6, .ref a33), (7, .ref a40), (8, .int x8), (9, .int x9), (11, .int x11), (12, .int x12)]) hx hb dL_points_186 hl (k := 12) rfl rfl (by decide) rfl (fun ls hl => ?_)
          refine lv_goto (tgt := 160) hx hb dL_points_189 (by decide) ?_
          have hl9 := lv_sub (l' := [(0, .ref (ad 0)), (1, .int x1), (2, .int x2), (3, .ref a13), (4, .ref a19), (5, .ref a26), (6, .ref a33), (7, .ref a40), (8, .int x8), (9, .int x9), (11, .int x11), (12, .int x12), (13, .int (x13 + 1))]) hl [1, 2, 3, 4, 5, 6, 7, 8, 9, 10, 11, 12, 0] rfl
          have hP9 : va_P D vwCl ([(a13, .inl (C 0, 256, .inl ta13)), (a19, .inl (C 0, 256, .inl ta19)), (a26, .inl (C 0, 256, .inl ta26)), (a33, .inl (C 0, 256, .inl ta33)), (a40, .inl (C 0, 256, .inl ta40))] ++ wK C ad d) H := bd_P (lc := [(a13, .inl (C 0, 256, .inl ta13)), (a19, .inl (C 0, 256, .inl ta19)), (a26, .inl (C 0, 256, .inl ta26)), (a33, .inl (C 0, 256, .inl ta33)), (a40, .inl (C 0, 256, .inl ta40))]) hP [0, 1, 2, 3, 4] rfl
          have hD9 : va_D A ([(a13, .inl (C 0, 256, .inl ta13)), (a19, .inl (C 0, 256, .inl ta19)), (a26, .inl (C 0, 256, .inl ta26)), (a33, .inl (C 0, 256, .inl ta33)), (a40, .inl (C 0, 256, .inl ta40))] ++ wK C ad d) := bd_D (lc := [(a13, .inl (C 0, 256, .inl ta13)), (a19, .inl (C 0, 256, .inl ta19)), (a26, .inl (C 0, 256, .inl ta26)), (a33, .inl (C 0, 256, .inl ta33)), (a40, .inl (C 0, 256, .inl ta40))]) hD [0, 1, 2, 3, 4] rfl (by decide)
          exact ih (x13 + 1) H locs ls hl9 hP9 hD9 hS hwp
        · have hwp := hwp.2 c173
          refine lv_aload hx hb dL_points_176 (lv_at hl 4 rfl) ?_
          refine lv_iload hx hb dL_points_178 (lv_at hl 12 rfl) ?_
          obtain ⟨hi180, hwp⟩ := hwp
          refine va_iald (D := D) hx hb hK hP 1 0 rfl rfl hi180 dL_points_180 ?_
          refine lv_iload hx hb dL_points_181 (lv_at hl 11 rfl) ?_
          refine lv_icmp_eq (tgt := 192) hx hb dL_points_183 (by decide) (fun c183 => ?_) (fun c183 => ?_)
          · have hwp := hwp.1 c183
            have hl9 := lv_sub (l' := [(0, .ref (ad 0)), (1, .int x1), (2, .int x2), (3, .ref a13), (4, .ref a19), (5, .ref a26), (6, .ref a33), (7, .ref a40), (8, .int x8), (9, .int x9), (11, .int x11), (12, .int x12), (13, .int x13)]) hl [0, 1, 2, 3, 4, 5, 6, 7, 8, 9, 10, 11, 12] rfl
            have hP9 : va_P D vwCl ([(a13, .inl (C 0, 256, .inl ta13)), (a19, .inl (C 0, 256, .inl ta19)), (a26, .inl (C 0, 256, .inl ta26)), (a33, .inl (C 0, 256, .inl ta33)), (a40, .inl (C 0, 256, .inl ta40))] ++ wK C ad d) H := bd_P (lc := [(a13, .inl (C 0, 256, .inl ta13)), (a19, .inl (C 0, 256, .inl ta19)), (a26, .inl (C 0, 256, .inl ta26)), (a33, .inl (C 0, 256, .inl ta33)), (a40, .inl (C 0, 256, .inl ta40))]) hP [0, 1, 2, 3, 4] rfl
            have hD9 : va_D A ([(a13, .inl (C 0, 256, .inl ta13)), (a19, .inl (C 0, 256, .inl ta19)), (a26, .inl (C 0, 256, .inl ta26)), (a33, .inl (C 0, 256, .inl ta33)), (a40, .inl (C 0, 256, .inl ta40))] ++ wK C ad d) := bd_D (lc := [(a13, .inl (C 0, 256, .inl ta13)), (a19, .inl (C 0, 256, .inl ta19)), (a26, .inl (C 0, 256, .inl ta26)), (a33, .inl (C 0, 256, .inl ta33)), (a40, .inl (C 0, 256, .inl ta40))]) hD [0, 1, 2, 3, 4] rfl (by decide)
            exact hk192 x13 H locs ls hl9 hP9 hD9 hS hwp
          · have hwp := hwp.2 c183
            refine lv_iinc (v := x13 + 1) (lv' := [(13, .int (x13 + 1)), (0, .ref (ad 0)), (1, .int x1), (2, .int x2), (3, .ref a13), (4, .ref a19), (5, .ref a26), (6, .ref a33), (7, .ref a40), (8, .int x8), (9, .int x9), (11, .int x11), (12, .int x12)]) hx hb dL_points_186 hl (k := 12) rfl rfl (by decide) rfl (fun ls hl => ?_)
            refine lv_goto (tgt := 160) hx hb dL_points_189 (by decide) ?_
            have hl9 := lv_sub (l' := [(0, .ref (ad 0)), (1, .int x1), (2, .int x2), (3, .ref a13), (4, .ref a19), (5, .ref a26), (6, .ref a33), (7, .ref a40), (8, .int x8), (9, .int x9), (11, .int x11), (12, .int x12), (13, .int (x13 + 1))]) hl [1, 2, 3, 4, 5, 6, 7, 8, 9, 10, 11, 12, 0] rfl
            have hP9 : va_P D vwCl ([(a13, .inl (C 0, 256, .inl ta13)), (a19, .inl (C 0, 256, .inl ta19)), (a26, .inl (C 0, 256, .inl ta26)), (a33, .inl (C 0, 256, .inl ta33)), (a40, .inl (C 0, 256, .inl ta40))] ++ wK C ad d) H := bd_P (lc := [(a13, .inl (C 0, 256, .inl ta13)), (a19, .inl (C 0, 256, .inl ta19)), (a26, .inl (C 0, 256, .inl ta26)), (a33, .inl (C 0, 256, .inl ta33)), (a40, .inl (C 0, 256, .inl ta40))]) hP [0, 1, 2, 3, 4] rfl
            have hD9 : va_D A ([(a13, .inl (C 0, 256, .inl ta13)), (a19, .inl (C 0, 256, .inl ta19)), (a26, .inl (C 0, 256, .inl ta26)), (a33, .inl (C 0, 256, .inl ta33)), (a40, .inl (C 0, 256, .inl ta40))] ++ wK C ad d) := bd_D (lc := [(a13, .inl (C 0, 256, .inl ta13)), (a19, .inl (C 0, 256, .inl ta19)), (a26, .inl (C 0, 256, .inl ta26)), (a33, .inl (C 0, 256, .inl ta33)), (a40, .inl (C 0, 256, .inl ta40))]) hD [0, 1, 2, 3, 4] rfl (by decide)
            exact ih (x13 + 1) H locs ls hl9 hP9 hD9 hS hwp
  have HB229 : ∀ (a13 : Nat) (a19 : Nat) (a26 : Nat) (a33 : Nat) (a40 : Nat) (x1 : Int32) (k50 : Int32 → Int32 → Int32 → DT → (Nat → Int32) → (Nat → Int32) → (Nat → Int32) → (Nat → Int32) → (Nat → Int32) → Prop) (hk50 : ∀ (x2 : Int32) (x8 : Int32) (x9 : Int32) (d : DT) (ta13 : Nat → Int32) (ta19 : Nat → Int32) (ta26 : Nat → Int32) (ta33 : Nat → Int32) (ta40 : Nat → Int32) (H : Heap) (locs : List Loc) (ls : Array Slot), lv_has ls 18 [(0, .ref (ad 0)), (1, .int x1), (2, .int x2), (3, .ref a13), (4, .ref a19), (5, .ref a26), (6, .ref a33), (7, .ref a40), (8, .int x8), (9, .int x9)] → va_P D vwCl ([(a13, .inl (C 0, 256, .inl ta13)), (a19, .inl (C 0, 256, .inl ta19)), (a26, .inl (C 0, 256, .inl ta26)), (a33, .inl (C 0, 256, .inl ta33)), (a40, .inl (C 0, 256, .inl ta40))] ++ wK C ad d) H → va_D A ([(a13, .inl (C 0, 256, .inl ta13)), (a19, .inl (C 0, 256, .inl ta19)), (a26, .inl (C 0, 256, .inl ta26)), (a33, .inl (C 0, 256, .inl ta33)), (a40, .inl (C 0, 256, .inl ta40))] ++ wK C ad d) → va_S A s.heap H locs → k50 x2 x8 x9 d ta13 ta19 ta26 ta33 ta40 → W p l e (headSpec ws_L_points rm_L_points).room s m ([.ref (ad 0)] : List Value).toArray below meth c H locs 5 1280 (MQ below (q_L_points D C ad Q A) ([.ref (ad 0)] : List Value).toArray s 8 2048 A) (F0 m 50 ls [])) (k271 : Int32 → Int32 → DT → (Nat → Int32) → (Nat → Int32) → (Nat → Int32) → (Nat → Int32) → (Nat → Int32) → Prop) (hk271 : ∀ (x2 : Int32) (x8 : Int32) (d : DT) (ta13 : Nat → Int32) (ta19 : Nat → Int32) (ta26 : Nat → Int32) (ta33 : Nat → Int32) (ta40 : Nat → Int32) (H : Heap) (locs : List Loc) (ls : Array Slot), lv_has ls 18 [(0, .ref (ad 0)), (1, .int x1), (2, .int x2), (3, .ref a13), (4, .ref a19), (5, .ref a26), (6, .ref a33), (7, .ref a40), (8, .int x8)] → va_P D vwCl ([(a13, .inl (C 0, 256, .inl ta13)), (a19, .inl (C 0, 256, .inl ta19)), (a26, .inl (C 0, 256, .inl ta26)), (a33, .inl (C 0, 256, .inl ta33)), (a40, .inl (C 0, 256, .inl ta40))] ++ wK C ad d) H → va_D A ([(a13, .inl (C 0, 256, .inl ta13)), (a19, .inl (C 0, 256, .inl ta19)), (a26, .inl (C 0, 256, .inl ta26)), (a33, .inl (C 0, 256, .inl ta33)), (a40, .inl (C 0, 256, .inl ta40))] ++ wK C ad d) → va_S A s.heap H locs → k271 x2 x8 d ta13 ta19 ta26 ta33 ta40 → W p l e (headSpec ws_L_points rm_L_points).room s m ([.ref (ad 0)] : List Value).toArray below meth c H locs 5 1280 (MQ below (q_L_points D C ad Q A) ([.ref (ad 0)] : List Value).toArray s 8 2048 A) (F0 m 271 ls [])) (x2 : Int32) (x8 : Int32) (x9 : Int32) (x13 : Int32) (d : DT) (ta13 : Nat → Int32) (ta19 : Nat → Int32) (ta26 : Nat → Int32) (ta33 : Nat → Int32) (ta40 : Nat → Int32) (H : Heap) (locs : List Loc) (ls : Array Slot), lv_has ls 18 [(0, .ref (ad 0)), (1, .int x1), (2, .int x2), (3, .ref a13), (4, .ref a19), (5, .ref a26), (6, .ref a33), (7, .ref a40), (8, .int x8), (9, .int x9), (13, .int x13)] → va_P D vwCl ([(a13, .inl (C 0, 256, .inl ta13)), (a19, .inl (C 0, 256, .inl ta19)), (a26, .inl (C 0, 256, .inl ta26)), (a33, .inl (C 0, 256, .inl ta33)), (a40, .inl (C 0, 256, .inl ta40))] ++ wK C ad d) H → va_D A ([(a13, .inl (C 0, 256, .inl ta13)), (a19, .inl (C 0, 256, .inl ta19)), (a26, .inl (C 0, 256, .inl ta26)), (a33, .inl (C 0, 256, .inl ta33)), (a40, .inl (C 0, 256, .inl ta40))] ++ wK C ad d) → va_S A s.heap H locs → wp_L_points_b229 x1 k50 k271 Q x2 x8 x9 x13 d ta13 ta19 ta26 ta33 ta40 → W p l e (headSpec ws_L_points rm_L_points).room s m ([.ref (ad 0)] : List Value).toArray below meth c H locs 5 1280 (MQ below (q_L_points D C ad Q A) ([.ref (ad 0)] : List Value).toArray s 8 2048 A) (F0 m 229 ls []) := by
    intro a13 a19 a26 a33 a40 x1 k50 hk50 k271 hk271 x2 x8 x9 x13 d ta13 ta19 ta26 ta33 ta40 H locs ls hl hP hD hS hwp
    unfold wp_L_points_b229 at hwp
    refine lv_aload hx hb dL_points_229 (lv_at hl 7 rfl) ?_
    refine lv_iload hx hb dL_points_231 (lv_at hl 10 rfl) ?_
    refine lv_dup2_11 hx hb dL_points_233 rfl rfl ?_
    obtain ⟨hi234, hwp⟩ := hwp
    refine va_iald (D := D) hx hb hK hP 4 0 rfl rfl hi234 dL_points_234 ?_
    refine lv_iconst (v := 1) hx hb dL_points_235 (by decide) ?_
    refine lv_iadd hx hb dL_points_236 ?_
    obtain ⟨hi237, hwp⟩ := hwp
    refine va_iast (D := D) hx hb hK hP hD hS 4 0 rfl rfl hi237 dL_points_237 (fun H locs hP hD hS => ?_)
    have hP : va_P D vwCl ([(a13, .inl (C 0, 256, .inl ta13)), (a19, .inl (C 0, 256, .inl ta19)), (a26, .inl (C 0, 256, .inl ta26)), (a33, .inl (C 0, 256, .inl ta33)), (a40, .inl (C 0, 256, .inl (upd ta40 x13.toNatClampNeg ((ta40 x13.toNatClampNeg) + (1 : Int32)))))] ++ wK C ad d) H := hP
    have hD : va_D A ([(a13, .inl (C 0, 256, .inl ta13)), (a19, .inl (C 0, 256, .inl ta19)), (a26, .inl (C 0, 256, .inl ta26)), (a33, .inl (C 0, 256, .inl ta33)), (a40, .inl (C 0, 256, .inl (upd ta40 x13.toNatClampNeg ((ta40 x13.toNatClampNeg) + (1 : Int32)))))] ++ wK C ad d) := hD
    refine lv_aload_n hx hb dL_points_238 rfl (lv_at hl 0 rfl) ?_
    refine lv_iload hx hb dL_points_239 (lv_at hl 9 rfl) ?_
    refine lv_iconst (v := 0) hx hb dL_points_241 (by decide) ?_
    have hPc : va_P D vwCl ([] ++ wK C ad d) H := bd_P (lc := []) hP [] rfl
    have hDc : va_D A ([] ++ wK C ad d) := bd_D (lc := []) hD [] rfl (by decide)
    have hFc : ∀ q, va_A ([] ++ wK C ad d) H.size q → A q := bd_free (lc := []) hD hS hA [] rfl
    refine va_calli (va_runS (As := [.ref (ad 0), .int x9, .int (0 : Int32)]) (rest := []) ⟨hx, hb, hml, hown, hts⟩ (met_L_sum l hst D C ad x9 (0 : Int32) d H.size _ hwp) (va_cwS 3 hts gc_L_101 rfl rfl rfl (by decide +kernel) ⟨Nat.le_of_ble_eq_true rfl, Nat.le_of_ble_eq_true rfl⟩) ⟨fun a U g mk q => by obtain ⟨q0, q1, qP, qK, qD, qT⟩ := q; exact ⟨q0, q1, qP, va_K.moved (u := U) (U := U.calling g mk a) (Vm.Alike.refl U.vm) qK, qD, qT.mv (U := U.calling g mk a) (State.WarmedH.refl U)⟩, fun U hU hW => ⟨rfl, by rw [hU], by rw [hU]; exact hPc, va_K.moved hW.alike hK, hDc.weaken (fun _ _ _ _ => trivial), hT.call hS hFc hU hW⟩⟩ rfl rfl hl.1 rfl (lv_room (Nat.le_of_ble_eq_true rfl)) dL_points_242 ⟨Nat.le_of_ble_eq_true rfl, Nat.le_of_ble_eq_true rfl⟩) hS (fun q _ h => hFc q h) hFc (fun r242 u t H1 locs ht hvm hwp hB hz1 hk1 hS => ?_)
    obtain ⟨u242_12, rfl⟩ : ∃ z, z = u := ⟨_, rfl⟩
    obtain ⟨hP1, -, hD1⟩ := hB
    rw [ht] at hP1
    obtain ⟨hP, hD⟩ := bd_join (lr := [(a13, .inl (C 0, 256, .inl ta13)), (a19, .inl (C 0, 256, .inl ta19)), (a26, .inl (C 0, 256, .inl ta26)), (a33, .inl (C 0, 256, .inl ta33)), (a40, .inl (C 0, 256, .inl (upd ta40 x13.toNatClampNeg ((ta40 x13.toNatClampNeg) + (1 : Int32)))))]) (l1 := []) (b1 := wK C ad u242_12) hP hD [] [0, 1, 2, 3, 4] rfl rfl (by decide) (by decide) hk1 hFc hP1 hD1
    generalize H1 = H at hP hS ⊢
    have hP : va_P D vwCl ([(a13, .inl (C 0, 256, .inl ta13)), (a19, .inl (C 0, 256, .inl ta19)), (a26, .inl (C 0, 256, .inl ta26)), (a33, .inl (C 0, 256, .inl ta33)), (a40, .inl (C 0, 256, .inl (upd ta40 x13.toNatClampNeg ((ta40 x13.toNatClampNeg) + (1 : Int32)))))] ++ wK C ad u242_12) H := hP
    have hD : va_D A ([(a13, .inl (C 0, 256, .inl ta13)), (a19, .inl (C 0, 256, .inl ta19)), (a26, .inl (C 0, 256, .inl ta26)), (a33, .inl (C 0, 256, .inl ta33)), (a40, .inl (C 0, 256, .inl (upd ta40 x13.toNatClampNeg ((ta40 x13.toNatClampNeg) + (1 : Int32)))))] ++ wK C ad u242_12) := hD
    refine lv_aload_n hx hb dL_points_245 rfl (lv_at hl 0 rfl) ?_
    refine lv_aload hx hb dL_points_246 (lv_at hl 6 rfl) ?_
    refine lv_iload hx hb dL_points_248 (lv_at hl 10 rfl) ?_
    obtain ⟨hi250, hwp⟩ := hwp
    refine va_iald (D := D) hx hb hK hP 3 0 rfl rfl hi250 dL_points_250 ?_
    refine lv_iconst (v := 0) hx hb dL_points_251 (by decide) ?_
    have hPc : va_P D vwCl ([] ++ wK C ad u242_12) H := bd_P (lc := []) hP [] rfl
    have hDc : va_D A ([] ++ wK C ad u242_12) := bd_D (lc := []) hD [] rfl (by decide)
    have hFc : ∀ q, va_A ([] ++ wK C ad u242_12) H.size q → A q := bd_free (lc := []) hD hS hA [] rfl
    refine va_calli (va_runS (As := [.ref (ad 0), .int (ta33 x13.toNatClampNeg), .int (0 : Int32)]) (rest := [.int r242]) ⟨hx, hb, hml, hown, hts⟩ (met_L_sum l hst D C ad (ta33 x13.toNatClampNeg) (0 : Int32) u242_12 H.size _ hwp) (va_cwS 3 hts gc_L_101 rfl rfl rfl (by decide +kernel) ⟨Nat.le_of_ble_eq_true rfl, Nat.le_of_ble_eq_true rfl⟩) ⟨fun a U g mk q => by obtain ⟨q0, q1, qP, qK, qD, qT⟩ := q; exact ⟨q0, q1, qP, va_K.moved (u := U) (U := U.calling g mk a) (Vm.Alike.refl U.vm) qK, qD, qT.mv (U := U.calling g mk a) (State.WarmedH.refl U)⟩, fun U hU hW => ⟨rfl, by rw [hU], by rw [hU]; exact hPc, va_K.moved hW.alike hK, hDc.weaken (fun _ _ _ _ => trivial), hT.call hS hFc hU hW⟩⟩ rfl rfl hl.1 rfl (lv_room (Nat.le_of_ble_eq_true rfl)) dL_points_252 ⟨Nat.le_of_ble_eq_true rfl, Nat.le_of_ble_eq_true rfl⟩) hS (fun q _ h => hFc q h) hFc (fun r252 u t H1 locs ht hvm hwp hB hz1 hk1 hS => ?_)
    obtain ⟨u252_13, rfl⟩ : ∃ z, z = u := ⟨_, rfl⟩
    obtain ⟨hP1, -, hD1⟩ := hB
    rw [ht] at hP1
    obtain ⟨hP, hD⟩ := bd_join (lr := [(a13, .inl (C 0, 256, .inl ta13)), (a19, .inl (C 0, 256, .inl ta19)), (a26, .inl (C 0, 256, .inl ta26)), (a33, .inl (C 0, 256, .inl ta33)), (a40, .inl (C 0, 256, .inl (upd ta40 x13.toNatClampNeg ((ta40 x13.toNatClampNeg) + (1 : Int32)))))]) (l1 := []) (b1 := wK C ad u252_13) hP hD [] [0, 1, 2, 3, 4] rfl rfl (by decide) (by decide) hk1 hFc hP1 hD1
    generalize H1 = H at hP hS ⊢
    have hP : va_P D vwCl ([(a13, .inl (C 0, 256, .inl ta13)), (a19, .inl (C 0, 256, .inl ta19)), (a26, .inl (C 0, 256, .inl ta26)), (a33, .inl (C 0, 256, .inl ta33)), (a40, .inl (C 0, 256, .inl (upd ta40 x13.toNatClampNeg ((ta40 x13.toNatClampNeg) + (1 : Int32)))))] ++ wK C ad u252_13) H := hP
    have hD : va_D A ([(a13, .inl (C 0, 256, .inl ta13)), (a19, .inl (C 0, 256, .inl ta19)), (a26, .inl (C 0, 256, .inl ta26)), (a33, .inl (C 0, 256, .inl ta33)), (a40, .inl (C 0, 256, .inl (upd ta40 x13.toNatClampNeg ((ta40 x13.toNatClampNeg) + (1 : Int32)))))] ++ wK C ad u252_13) := hD
    refine lv_icmp_ge (tgt := 265) hx hb dL_points_255 (by decide) (fun c255 => ?_) (fun c255 => ?_)
    · have hwp := hwp.1 c255
      refine lv_iinc (v := x9 + 1) (lv' := [(9, .int (x9 + 1)), (0, .ref (ad 0)), (1, .int x1), (2, .int x2), (3, .ref a13), (4, .ref a19), (5, .ref a26), (6, .ref a33), (7, .ref a40), (8, .int x8), (13, .int x13)]) hx hb dL_points_265 hl (k := 9) rfl rfl (by decide) rfl (fun ls hl => ?_)
      refine lv_goto (tgt := 50) hx hb dL_points_268 (by decide) ?_
      have hl9 := lv_sub (l' := [(0, .ref (ad 0)), (1, .int x1), (2, .int x2), (3, .ref a13), (4, .ref a19), (5, .ref a26), (6, .ref a33), (7, .ref a40), (8, .int x8), (9, .int (x9 + 1))]) hl [1, 2, 3, 4, 5, 6, 7, 8, 9, 0] rfl
      have hP9 : va_P D vwCl ([(a13, .inl (C 0, 256, .inl ta13)), (a19, .inl (C 0, 256, .inl ta19)), (a26, .inl (C 0, 256, .inl ta26)), (a33, .inl (C 0, 256, .inl ta33)), (a40, .inl (C 0, 256, .inl (upd ta40 x13.toNatClampNeg ((ta40 x13.toNatClampNeg) + (1 : Int32)))))] ++ wK C ad u252_13) H := bd_P (lc := [(a13, .inl (C 0, 256, .inl ta13)), (a19, .inl (C 0, 256, .inl ta19)), (a26, .inl (C 0, 256, .inl ta26)), (a33, .inl (C 0, 256, .inl ta33)), (a40, .inl (C 0, 256, .inl (upd ta40 x13.toNatClampNeg ((ta40 x13.toNatClampNeg) + (1 : Int32)))))]) hP [0, 1, 2, 3, 4] rfl
      have hD9 : va_D A ([(a13, .inl (C 0, 256, .inl ta13)), (a19, .inl (C 0, 256, .inl ta19)), (a26, .inl (C 0, 256, .inl ta26)), (a33, .inl (C 0, 256, .inl ta33)), (a40, .inl (C 0, 256, .inl (upd ta40 x13.toNatClampNeg ((ta40 x13.toNatClampNeg) + (1 : Int32)))))] ++ wK C ad u252_13) := bd_D (lc := [(a13, .inl (C 0, 256, .inl ta13)), (a19, .inl (C 0, 256, .inl ta19)), (a26, .inl (C 0, 256, .inl ta26)), (a33, .inl (C 0, 256, .inl ta33)), (a40, .inl (C 0, 256, .inl (upd ta40 x13.toNatClampNeg ((ta40 x13.toNatClampNeg) + (1 : Int32)))))]) hD [0, 1, 2, 3, 4] rfl (by decide)
      exact hk50 x2 x8 (x9 + 1) u252_13 ta13 ta19 ta26 ta33 (upd ta40 x13.toNatClampNeg ((ta40 x13.toNatClampNeg) + (1 : Int32))) H locs ls hl9 hP9 hD9 hS hwp
    · have hwp := hwp.2 c255
      refine lv_aload hx hb dL_points_258 (lv_at hl 6 rfl) ?_
      refine lv_iload hx hb dL_points_260 (lv_at hl 10 rfl) ?_
      refine lv_iload hx hb dL_points_262 (lv_at hl 9 rfl) ?_
      obtain ⟨hi264, hwp⟩ := hwp
      refine va_iast (D := D) hx hb hK hP hD hS 3 0 rfl rfl hi264 dL_points_264 (fun H locs hP hD hS => ?_)
      have hP : va_P D vwCl ([(a13, .inl (C 0, 256, .inl ta13)), (a19, .inl (C 0, 256, .inl ta19)), (a26, .inl (C 0, 256, .inl ta26)), (a33, .inl (C 0, 256, .inl (upd ta33 x13.toNatClampNeg x9))), (a40, .inl (C 0, 256, .inl (upd ta40 x13.toNatClampNeg ((ta40 x13.toNatClampNeg) + (1 : Int32)))))] ++ wK C ad u252_13) H := hP
      have hD : va_D A ([(a13, .inl (C 0, 256, .inl ta13)), (a19, .inl (C 0, 256, .inl ta19)), (a26, .inl (C 0, 256, .inl ta26)), (a33, .inl (C 0, 256, .inl (upd ta33 x13.toNatClampNeg x9))), (a40, .inl (C 0, 256, .inl (upd ta40 x13.toNatClampNeg ((ta40 x13.toNatClampNeg) + (1 : Int32)))))] ++ wK C ad u252_13) := hD
      refine lv_iinc (v := x9 + 1) (lv' := [(9, .int (x9 + 1)), (0, .ref (ad 0)), (1, .int x1), (2, .int x2), (3, .ref a13), (4, .ref a19), (5, .ref a26), (6, .ref a33), (7, .ref a40), (8, .int x8), (13, .int x13)]) hx hb dL_points_265 hl (k := 9) rfl rfl (by decide) rfl (fun ls hl => ?_)
      refine lv_goto (tgt := 50) hx hb dL_points_268 (by decide) ?_
      have hl9 := lv_sub (l' := [(0, .ref (ad 0)), (1, .int x1), (2, .int x2), (3, .ref a13), (4, .ref a19), (5, .ref a26), (6, .ref a33), (7, .ref a40), (8, .int x8), (9, .int (x9 + 1))]) hl [1, 2, 3, 4, 5, 6, 7, 8, 9, 0] rfl
      have hP9 : va_P D vwCl ([(a13, .inl (C 0, 256, .inl ta13)), (a19, .inl (C 0, 256, .inl ta19)), (a26, .inl (C 0, 256, .inl ta26)), (a33, .inl (C 0, 256, .inl (upd ta33 x13.toNatClampNeg x9))), (a40, .inl (C 0, 256, .inl (upd ta40 x13.toNatClampNeg ((ta40 x13.toNatClampNeg) + (1 : Int32)))))] ++ wK C ad u252_13) H := bd_P (lc := [(a13, .inl (C 0, 256, .inl ta13)), (a19, .inl (C 0, 256, .inl ta19)), (a26, .inl (C 0, 256, .inl ta26)), (a33, .inl (C 0, 256, .inl (upd ta33 x13.toNatClampNeg x9))), (a40, .inl (C 0, 256, .inl (upd ta40 x13.toNatClampNeg ((ta40 x13.toNatClampNeg) + (1 : Int32)))))]) hP [0, 1, 2, 3, 4] rfl
      have hD9 : va_D A ([(a13, .inl (C 0, 256, .inl ta13)), (a19, .inl (C 0, 256, .inl ta19)), (a26, .inl (C 0, 256, .inl ta26)), (a33, .inl (C 0, 256, .inl (upd ta33 x13.toNatClampNeg x9))), (a40, .inl (C 0, 256, .inl (upd ta40 x13.toNatClampNeg ((ta40 x13.toNatClampNeg) + (1 : Int32)))))] ++ wK C ad u252_13) := bd_D (lc := [(a13, .inl (C 0, 256, .inl ta13)), (a19, .inl (C 0, 256, .inl ta19)), (a26, .inl (C 0, 256, .inl ta26)), (a33, .inl (C 0, 256, .inl (upd ta33 x13.toNatClampNeg x9))), (a40, .inl (C 0, 256, .inl (upd ta40 x13.toNatClampNeg ((ta40 x13.toNatClampNeg) + (1 : Int32)))))]) hD [0, 1, 2, 3, 4] rfl (by decide)
      exact hk50 x2 x8 (x9 + 1) u252_13 ta13 ta19 ta26 (upd ta33 x13.toNatClampNeg x9) (upd ta40 x13.toNatClampNeg ((ta40 x13.toNatClampNeg) + (1 : Int32))) H locs ls hl9 hP9 hD9 hS hwp
  have HL50 : ∀ (a13 : Nat) (a19 : Nat) (a26 : Nat) (a33 : Nat) (a40 : Nat) (x1 : Int32) (k271 : Int32 → Int32 → DT → (Nat → Int32) → (Nat → Int32) → (Nat → Int32) → (Nat → Int32) → (Nat → Int32) → Prop) (hk271 : ∀ (x2 : Int32) (x8 : Int32) (d : DT) (ta13 : Nat → Int32) (ta19 : Nat → Int32) (ta26 : Nat → Int32) (ta33 : Nat → Int32) (ta40 : Nat → Int32) (H : Heap) (locs : List Loc) (ls : Array Slot), lv_has ls 18 [(0, .ref (ad 0)), (1, .int x1), (2, .int x2), (3, .ref a13), (4, .ref a19), (5, .ref a26), (6, .ref a33), (7, .ref a40), (8, .int x8)] → va_P D vwCl ([(a13, .inl (C 0, 256, .inl ta13)), (a19, .inl (C 0, 256, .inl ta19)), (a26, .inl (C 0, 256, .inl ta26)), (a33, .inl (C 0, 256, .inl ta33)), (a40, .inl (C 0, 256, .inl ta40))] ++ wK C ad d) H → va_D A ([(a13, .inl (C 0, 256, .inl ta13)), (a19, .inl (C 0, 256, .inl ta19)), (a26, .inl (C 0, 256, .inl ta26)), (a33, .inl (C 0, 256, .inl ta33)), (a40, .inl (C 0, 256, .inl ta40))] ++ wK C ad d) → va_S A s.heap H locs → k271 x2 x8 d ta13 ta19 ta26 ta33 ta40 → W p l e (headSpec ws_L_points rm_L_points).room s m ([.ref (ad 0)] : List Value).toArray below meth c H locs 5 1280 (MQ below (q_L_points D C ad Q A) ([.ref (ad 0)] : List Value).toArray s 8 2048 A) (F0 m 271 ls [])) (n50 : Nat) (x2 : Int32) (x8 : Int32) (x9 : Int32) (d : DT) (ta13 : Nat → Int32) (ta19 : Nat → Int32) (ta26 : Nat → Int32) (ta33 : Nat → Int32) (ta40 : Nat → Int32) (H : Heap) (locs : List Loc) (ls : Array Slot), lv_has ls 18 [(0, .ref (ad 0)), (1, .int x1), (2, .int x2), (3, .ref a13), (4, .ref a19), (5, .ref a26), (6, .ref a33), (7, .ref a40), (8, .int x8), (9, .int x9)] → va_P D vwCl ([(a13, .inl (C 0, 256, .inl ta13)), (a19, .inl (C 0, 256, .inl ta19)), (a26, .inl (C 0, 256, .inl ta26)), (a33, .inl (C 0, 256, .inl ta33)), (a40, .inl (C 0, 256, .inl ta40))] ++ wK C ad d) H → va_D A ([(a13, .inl (C 0, 256, .inl ta13)), (a19, .inl (C 0, 256, .inl ta19)), (a26, .inl (C 0, 256, .inl ta26)), (a33, .inl (C 0, 256, .inl ta33)), (a40, .inl (C 0, 256, .inl ta40))] ++ wK C ad d) → va_S A s.heap H locs → wp_L_points_L50 x1 k271 Q n50 x2 x8 x9 d ta13 ta19 ta26 ta33 ta40 → W p l e (headSpec ws_L_points rm_L_points).room s m ([.ref (ad 0)] : List Value).toArray below meth c H locs 5 1280 (MQ below (q_L_points D C ad Q A) ([.ref (ad 0)] : List Value).toArray s 8 2048 A) (F0 m 50 ls []) := by
    intro a13 a19 a26 a33 a40 x1 k271 hk271 n50
    induction n50 with
    | zero =>
      intro x2 x8 x9 d ta13 ta19 ta26 ta33 ta40 H locs ls hl hP hD hS hwp
      exact False.elim hwp
    | succ n50 ih =>
      intro x2 x8 x9 d ta13 ta19 ta26 ta33 ta40 H locs ls hl hP hD hS hwp
      unfold wp_L_points_L50 at hwp
      refine lv_iload hx hb dL_points_50 (lv_at hl 9 rfl) ?_
      refine lv_iload_n hx hb dL_points_52 rfl (lv_at hl 1 rfl) ?_
      refine lv_icmp_ge (tgt := 271) hx hb dL_points_53 (by decide) (fun c53 => ?_) (fun c53 => ?_)
      · have hwp := hwp.1 c53
        have hl9 := lv_sub (l' := [(0, .ref (ad 0)), (1, .int x1), (2, .int x2), (3, .ref a13), (4, .ref a19), (5, .ref a26), (6, .ref a33), (7, .ref a40), (8, .int x8)]) hl [0, 1, 2, 3, 4, 5, 6, 7, 8] rfl
        have hP9 : va_P D vwCl ([(a13, .inl (C 0, 256, .inl ta13)), (a19, .inl (C 0, 256, .inl ta19)), (a26, .inl (C 0, 256, .inl ta26)), (a33, .inl (C 0, 256, .inl ta33)), (a40, .inl (C 0, 256, .inl ta40))] ++ wK C ad d) H := bd_P (lc := [(a13, .inl (C 0, 256, .inl ta13)), (a19, .inl (C 0, 256, .inl ta19)), (a26, .inl (C 0, 256, .inl ta26)), (a33, .inl (C 0, 256, .inl ta33)), (a40, .inl (C 0, 256, .inl ta40))]) hP [0, 1, 2, 3, 4] rfl
        have hD9 : va_D A ([(a13, .inl (C 0, 256, .inl ta13)), (a19, .inl (C 0, 256, .inl ta19)), (a26, .inl (C 0, 256, .inl ta26)), (a33, .inl (C 0, 256, .inl ta33)), (a40, .inl (C 0, 256, .inl ta40))] ++ wK C ad d) := bd_D (lc := [(a13, .inl (C 0, 256, .inl ta13)), (a19, .inl (C 0, 256, .inl ta19)), (a26, .inl (C 0, 256, .inl ta26)), (a33, .inl (C 0, 256, .inl ta33)), (a40, .inl (C 0, 256, .inl ta40))]) hD [0, 1, 2, 3, 4] rfl (by decide)
        exact hk271 x2 x8 d ta13 ta19 ta26 ta33 ta40 H locs ls hl9 hP9 hD9 hS hwp
      · have hwp := hwp.2 c53
        refine lv_aload_n hx hb dL_points_56 rfl (lv_at hl 0 rfl) ?_
        refine lv_iload hx hb dL_points_57 (lv_at hl 9 rfl) ?_
        have hPc : va_P D vwCl ([] ++ wK C ad d) H := bd_P (lc := []) hP [] rfl
        have hDc : va_D A ([] ++ wK C ad d) := bd_D (lc := []) hD [] rfl (by decide)
        have hFc : ∀ q, va_A ([] ++ wK C ad d) H.size q → A q := bd_free (lc := []) hD hS hA [] rfl
        refine va_calli (va_runS (As := [.ref (ad 0), .int x9]) (rest := []) ⟨hx, hb, hml, hown, hts⟩ (met_L_refusal l hst D C ad x9 d H.size _ hwp) (va_cwS 2 hts gc_L_116 rfl rfl rfl (by decide +kernel) ⟨Nat.le_of_ble_eq_true rfl, Nat.le_of_ble_eq_true rfl⟩) ⟨fun a U g mk q => by obtain ⟨q0, q1, qP, qK, qD, qT⟩ := q; exact ⟨q0, q1, qP, va_K.moved (u := U) (U := U.calling g mk a) (Vm.Alike.refl U.vm) qK, qD, qT.mv (U := U.calling g mk a) (State.WarmedH.refl U)⟩, fun U hU hW => ⟨rfl, by rw [hU], by rw [hU]; exact hPc, va_K.moved hW.alike hK, hDc.weaken (fun _ _ _ _ => trivial), hT.call hS hFc hU hW⟩⟩ rfl rfl hl.1 rfl (lv_room (Nat.le_of_ble_eq_true rfl)) dL_points_59 ⟨Nat.le_of_ble_eq_true rfl, Nat.le_of_ble_eq_true rfl⟩) hS (fun q _ h => hFc q h) hFc (fun r59 u t H1 locs ht hvm hwp hB hz1 hk1 hS => ?_)
        obtain ⟨u59_2, rfl⟩ : ∃ z, z = u := ⟨_, rfl⟩
        obtain ⟨hP1, -, hD1⟩ := hB
        rw [ht] at hP1
        obtain ⟨hP, hD⟩ := bd_join (lr := [(a13, .inl (C 0, 256, .inl ta13)), (a19, .inl (C 0, 256, .inl ta19)), (a26, .inl (C 0, 256, .inl ta26)), (a33, .inl (C 0, 256, .inl ta33)), (a40, .inl (C 0, 256, .inl ta40))]) (l1 := []) (b1 := wK C ad u59_2) hP hD [] [0, 1, 2, 3, 4] rfl rfl (by decide) (by decide) hk1 hFc hP1 hD1
        generalize H1 = H at hP hS ⊢
        have hP : va_P D vwCl ([(a13, .inl (C 0, 256, .inl ta13)), (a19, .inl (C 0, 256, .inl ta19)), (a26, .inl (C 0, 256, .inl ta26)), (a33, .inl (C 0, 256, .inl ta33)), (a40, .inl (C 0, 256, .inl ta40))] ++ wK C ad u59_2) H := hP
        have hD : va_D A ([(a13, .inl (C 0, 256, .inl ta13)), (a19, .inl (C 0, 256, .inl ta19)), (a26, .inl (C 0, 256, .inl ta26)), (a33, .inl (C 0, 256, .inl ta33)), (a40, .inl (C 0, 256, .inl ta40))] ++ wK C ad u59_2) := hD
        refine lv_istore (lv' := [(10, .int r59), (0, .ref (ad 0)), (1, .int x1), (2, .int x2), (3, .ref a13), (4, .ref a19), (5, .ref a26), (6, .ref a33), (7, .ref a40), (8, .int x8), (9, .int x9)]) hx hb dL_points_62 hl (by decide) rfl (fun ls hl => ?_)
        refine lv_aload_n hx hb dL_points_64 rfl (lv_at hl 1 rfl) ?_
        refine lv_iload hx hb dL_points_65 (lv_at hl 10 rfl) ?_
        have hPc : va_P D vwCl ([] ++ wK C ad u59_2) H := bd_P (lc := []) hP [] rfl
        have hDc : va_D A ([] ++ wK C ad u59_2) := bd_D (lc := []) hD [] rfl (by decide)
        have hFc : ∀ q, va_A ([] ++ wK C ad u59_2) H.size q → A q := bd_free (lc := []) hD hS hA [] rfl
        refine va_calli (va_runV (As := [.int x9]) (rest := []) ⟨hx, hb, hml, hown, hts⟩ (mk_X10_refusal l hst D C ad x9 u59_2 H.size _ hwp) (cwV 1 hts gc_L_120 rfl rfl rfl (by decide +kernel) ⟨Nat.le_of_ble_eq_true rfl, Nat.le_of_ble_eq_true rfl⟩) ⟨fun a U g mk q => by obtain ⟨q0, q1, qP, qK, qD, qT⟩ := q; exact ⟨q0, q1, qP, va_K.moved (u := U) (U := U.calling g mk a) (Vm.Alike.refl U.vm) qK, qD, qT.mv (U := U.calling g mk a) (State.WarmedH.refl U)⟩, va_recv hK hPc (ci := 10) (q0 := 0) rfl rfl, fun U hU hW => ⟨rfl, by rw [hU], by rw [hU]; exact hPc, va_K.moved hW.alike hK, hDc.weaken (fun _ _ _ _ => trivial), hT.call hS hFc hU hW⟩⟩ rfl rfl hl.1 rfl (lv_room (Nat.le_of_ble_eq_true rfl)) dL_points_67 ⟨Nat.le_of_ble_eq_true rfl, Nat.le_of_ble_eq_true rfl⟩) hS (fun q _ h => hFc q h) hFc (fun r67 u t H1 locs ht hvm hwp hB hz1 hk1 hS => ?_)
        obtain ⟨u67_3, rfl⟩ : ∃ z, z = u := ⟨_, rfl⟩
        obtain ⟨hP1, -, hD1⟩ := hB
        rw [ht] at hP1
        obtain ⟨hP, hD⟩ := bd_join (lr := [(a13, .inl (C 0, 256, .inl ta13)), (a19, .inl (C 0, 256, .inl ta19)), (a26, .inl (C 0, 256, .inl ta26)), (a33, .inl (C 0, 256, .inl ta33)), (a40, .inl (C 0, 256, .inl ta40))]) (l1 := []) (b1 := wK C ad u67_3) hP hD [] [0, 1, 2, 3, 4] rfl rfl (by decide) (by decide) hk1 hFc hP1 hD1
        generalize H1 = H at hP hS ⊢
        have hP : va_P D vwCl ([(a13, .inl (C 0, 256, .inl ta13)), (a19, .inl (C 0, 256, .inl ta19)), (a26, .inl (C 0, 256, .inl ta26)), (a33, .inl (C 0, 256, .inl ta33)), (a40, .inl (C 0, 256, .inl ta40))] ++ wK C ad u67_3) H := hP
        have hD : va_D A ([(a13, .inl (C 0, 256, .inl ta13)), (a19, .inl (C 0, 256, .inl ta19)), (a26, .inl (C 0, 256, .inl ta26)), (a33, .inl (C 0, 256, .inl ta33)), (a40, .inl (C 0, 256, .inl ta40))] ++ wK C ad u67_3) := hD
        refine lv_iload hx hb dL_points_70 (lv_at hl 0 rfl) ?_
        refine lv_icmp_ne (tgt := 126) hx hb dL_points_72 (by decide) (fun c72 => ?_) (fun c72 => ?_)
        · have hwp := hwp.1 c72
          refine lv_iconst (v := 0) hx hb dL_points_126 (by decide) ?_
          have hP9 : va_P D vwCl ([] ++ wK C ad u67_3) H := bd_P (lc := []) hP [] rfl
          have hD9 : va_D A ([] ++ wK C ad u67_3) := bd_D (lc := []) hD [] rfl (by decide)
          refine W.widen (k := 8) (n := 2048) (Nat.le_of_ble_eq_true rfl) (Nat.le_of_ble_eq_true rfl) ?_
          exact W.zret (v := (0 : Int32)) (ty := .boolean) hx hb hr rfl (fun t ht hW => ⟨⟨(0 : Int32), (u67_3), rfl, hwp, by rw [ht]; exact hP9, va_K.moved hW.alike hK, hD9⟩, hS.F ht⟩) hS.2.2 dL_points_127
        · have hwp := hwp.2 c72
          refine lv_aload_n hx hb dL_points_75 rfl (lv_at hl 1 rfl) ?_
          refine lv_iload hx hb dL_points_76 (lv_at hl 10 rfl) ?_
          refine lv_iconst (v := 0) hx hb dL_points_78 (by decide) ?_
          have hPc : va_P D vwCl ([] ++ wK C ad u67_3) H := bd_P (lc := []) hP [] rfl
          have hDc : va_D A ([] ++ wK C ad u67_3) := bd_D (lc := []) hD [] rfl (by decide)
          have hFc : ∀ q, va_A ([] ++ wK C ad u67_3) H.size q → A q := bd_free (lc := []) hD hS hA [] rfl
          refine va_calli (va_runV (As := [.int x9, .int (0 : Int32)]) (rest := []) ⟨hx, hb, hml, hown, hts⟩ (mk_X10_sum l hst D C ad x9 (0 : Int32) u67_3 H.size _ hwp) (cwV 2 hts gc_L_122 rfl rfl rfl (by decide +kernel) ⟨Nat.le_of_ble_eq_true rfl, Nat.le_of_ble_eq_true rfl⟩) ⟨fun a U g mk q => by obtain ⟨q0, q1, qP, qK, qD, qT⟩ := q; exact ⟨q0, q1, qP, va_K.moved (u := U) (U := U.calling g mk a) (Vm.Alike.refl U.vm) qK, qD, qT.mv (U := U.calling g mk a) (State.WarmedH.refl U)⟩, va_recv hK hPc (ci := 10) (q0 := 0) rfl rfl, fun U hU hW => ⟨rfl, by rw [hU], by rw [hU]; exact hPc, va_K.moved hW.alike hK, hDc.weaken (fun _ _ _ _ => trivial), hT.call hS hFc hU hW⟩⟩ rfl rfl hl.1 rfl (lv_room (Nat.le_of_ble_eq_true rfl)) dL_points_79 ⟨Nat.le_of_ble_eq_true rfl, Nat.le_of_ble_eq_true rfl⟩) hS (fun q _ h => hFc q h) hFc (fun r79 u t H1 locs ht hvm hwp hB hz1 hk1 hS => ?_)
          obtain ⟨u79_4, rfl⟩ : ∃ z, z = u := ⟨_, rfl⟩
          obtain ⟨hP1, -, hD1⟩ := hB
          rw [ht] at hP1
          obtain ⟨hP, hD⟩ := bd_join (lr := [(a13, .inl (C 0, 256, .inl ta13)), (a19, .inl (C 0, 256, .inl ta19)), (a26, .inl (C 0, 256, .inl ta26)), (a33, .inl (C 0, 256, .inl ta33)), (a40, .inl (C 0, 256, .inl ta40))]) (l1 := []) (b1 := wK C ad u79_4) hP hD [] [0, 1, 2, 3, 4] rfl rfl (by decide) (by decide) hk1 hFc hP1 hD1
          generalize H1 = H at hP hS ⊢
          have hP : va_P D vwCl ([(a13, .inl (C 0, 256, .inl ta13)), (a19, .inl (C 0, 256, .inl ta19)), (a26, .inl (C 0, 256, .inl ta26)), (a33, .inl (C 0, 256, .inl ta33)), (a40, .inl (C 0, 256, .inl ta40))] ++ wK C ad u79_4) H := hP
          have hD : va_D A ([(a13, .inl (C 0, 256, .inl ta13)), (a19, .inl (C 0, 256, .inl ta19)), (a26, .inl (C 0, 256, .inl ta26)), (a33, .inl (C 0, 256, .inl ta33)), (a40, .inl (C 0, 256, .inl ta40))] ++ wK C ad u79_4) := hD
          refine lv_aload_n hx hb dL_points_82 rfl (lv_at hl 1 rfl) ?_
          refine lv_iload hx hb dL_points_83 (lv_at hl 10 rfl) ?_
          refine lv_iconst (v := 0) hx hb dL_points_85 (by decide) ?_
          have hPc : va_P D vwCl ([] ++ wK C ad u79_4) H := bd_P (lc := []) hP [] rfl
          have hDc : va_D A ([] ++ wK C ad u79_4) := bd_D (lc := []) hD [] rfl (by decide)
          have hFc : ∀ q, va_A ([] ++ wK C ad u79_4) H.size q → A q := bd_free (lc := []) hD hS hA [] rfl
          refine va_calli (va_runS (As := [.ref (ad 0), .int x9, .int (0 : Int32)]) (rest := [.int r79]) ⟨hx, hb, hml, hown, hts⟩ (met_L_sum l hst D C ad x9 (0 : Int32) u79_4 H.size _ hwp) (va_cwS 3 hts gc_L_101 rfl rfl rfl (by decide +kernel) ⟨Nat.le_of_ble_eq_true rfl, Nat.le_of_ble_eq_true rfl⟩) ⟨fun a U g mk q => by obtain ⟨q0, q1, qP, qK, qD, qT⟩ := q; exact ⟨q0, q1, qP, va_K.moved (u := U) (U := U.calling g mk a) (Vm.Alike.refl U.vm) qK, qD, qT.mv (U := U.calling g mk a) (State.WarmedH.refl U)⟩, fun U hU hW => ⟨rfl, by rw [hU], by rw [hU]; exact hPc, va_K.moved hW.alike hK, hDc.weaken (fun _ _ _ _ => trivial), hT.call hS hFc hU hW⟩⟩ rfl rfl hl.1 rfl (lv_room (Nat.le_of_ble_eq_true rfl)) dL_points_86 ⟨Nat.le_of_ble_eq_true rfl, Nat.le_of_ble_eq_true rfl⟩) hS (fun q _ h => hFc q h) hFc (fun r86 u t H1 locs ht hvm hwp hB hz1 hk1 hS => ?_)
          obtain ⟨u86_5, rfl⟩ : ∃ z, z = u := ⟨_, rfl⟩
          obtain ⟨hP1, -, hD1⟩ := hB
          rw [ht] at hP1
          obtain ⟨hP, hD⟩ := bd_join (lr := [(a13, .inl (C 0, 256, .inl ta13)), (a19, .inl (C 0, 256, .inl ta19)), (a26, .inl (C 0, 256, .inl ta26)), (a33, .inl (C 0, 256, .inl ta33)), (a40, .inl (C 0, 256, .inl ta40))]) (l1 := []) (b1 := wK C ad u86_5) hP hD [] [0, 1, 2, 3, 4] rfl rfl (by decide) (by decide) hk1 hFc hP1 hD1
          generalize H1 = H at hP hS ⊢
          have hP : va_P D vwCl ([(a13, .inl (C 0, 256, .inl ta13)), (a19, .inl (C 0, 256, .inl ta19)), (a26, .inl (C 0, 256, .inl ta26)), (a33, .inl (C 0, 256, .inl ta33)), (a40, .inl (C 0, 256, .inl ta40))] ++ wK C ad u86_5) H := hP
          have hD : va_D A ([(a13, .inl (C 0, 256, .inl ta13)), (a19, .inl (C 0, 256, .inl ta19)), (a26, .inl (C 0, 256, .inl ta26)), (a33, .inl (C 0, 256, .inl ta33)), (a40, .inl (C 0, 256, .inl ta40))] ++ wK C ad u86_5) := hD
          refine lv_icmp_ne (tgt := 126) hx hb dL_points_89 (by decide) (fun c89 => ?_) (fun c89 => ?_)
          · have hwp := hwp.1 c89
            refine lv_iconst (v := 0) hx hb dL_points_126 (by decide) ?_
            have hP9 : va_P D vwCl ([] ++ wK C ad u86_5) H := bd_P (lc := []) hP [] rfl
            have hD9 : va_D A ([] ++ wK C ad u86_5) := bd_D (lc := []) hD [] rfl (by decide)
            refine W.widen (k := 8) (n := 2048) (Nat.le_of_ble_eq_true rfl) (Nat.le_of_ble_eq_true rfl) ?_
            exact W.zret (v := (0 : Int32)) (ty := .boolean) hx hb hr rfl (fun t ht hW => ⟨⟨(0 : Int32), (u86_5), rfl, hwp, by rw [ht]; exact hP9, va_K.moved hW.alike hK, hD9⟩, hS.F ht⟩) hS.2.2 dL_points_127
          · have hwp := hwp.2 c89
            refine lv_aload_n hx hb dL_points_92 rfl (lv_at hl 1 rfl) ?_
            refine lv_iload hx hb dL_points_93 (lv_at hl 10 rfl) ?_
            refine lv_iconst (v := 1) hx hb dL_points_95 (by decide) ?_
            have hPc : va_P D vwCl ([] ++ wK C ad u86_5) H := bd_P (lc := []) hP [] rfl
            have hDc : va_D A ([] ++ wK C ad u86_5) := bd_D (lc := []) hD [] rfl (by decide)
            have hFc : ∀ q, va_A ([] ++ wK C ad u86_5) H.size q → A q := bd_free (lc := []) hD hS hA [] rfl
            refine va_calli (va_runV (As := [.int x9, .int (1 : Int32)]) (rest := []) ⟨hx, hb, hml, hown, hts⟩ (mk_X10_sum l hst D C ad x9 (1 : Int32) u86_5 H.size _ hwp) (cwV 2 hts gc_L_122 rfl rfl rfl (by decide +kernel) ⟨Nat.le_of_ble_eq_true rfl, Nat.le_of_ble_eq_true rfl⟩) ⟨fun a U g mk q => by obtain ⟨q0, q1, qP, qK, qD, qT⟩ := q; exact ⟨q0, q1, qP, va_K.moved (u := U) (U := U.calling g mk a) (Vm.Alike.refl U.vm) qK, qD, qT.mv (U := U.calling g mk a) (State.WarmedH.refl U)⟩, va_recv hK hPc (ci := 10) (q0 := 0) rfl rfl, fun U hU hW => ⟨rfl, by rw [hU], by rw [hU]; exact hPc, va_K.moved hW.alike hK, hDc.weaken (fun _ _ _ _ => trivial), hT.call hS hFc hU hW⟩⟩ rfl rfl hl.1 rfl (lv_room (Nat.le_of_ble_eq_true rfl)) dL_points_96 ⟨Nat.le_of_ble_eq_true rfl, Nat.le_of_ble_eq_true rfl⟩) hS (fun q _ h => hFc q h) hFc (fun r96 u t H1 locs ht hvm hwp hB hz1 hk1 hS => ?_)
            obtain ⟨u96_6, rfl⟩ : ∃ z, z = u := ⟨_, rfl⟩
            obtain ⟨hP1, -, hD1⟩ := hB
            rw [ht] at hP1
            obtain ⟨hP, hD⟩ := bd_join (lr := [(a13, .inl (C 0, 256, .inl ta13)), (a19, .inl (C 0, 256, .inl ta19)), (a26, .inl (C 0, 256, .inl ta26)), (a33, .inl (C 0, 256, .inl ta33)), (a40, .inl (C 0, 256, .inl ta40))]) (l1 := []) (b1 := wK C ad u96_6) hP hD [] [0, 1, 2, 3, 4] rfl rfl (by decide) (by decide) hk1 hFc hP1 hD1
            generalize H1 = H at hP hS ⊢
            have hP : va_P D vwCl ([(a13, .inl (C 0, 256, .inl ta13)), (a19, .inl (C 0, 256, .inl ta19)), (a26, .inl (C 0, 256, .inl ta26)), (a33, .inl (C 0, 256, .inl ta33)), (a40, .inl (C 0, 256, .inl ta40))] ++ wK C ad u96_6) H := hP
            have hD : va_D A ([(a13, .inl (C 0, 256, .inl ta13)), (a19, .inl (C 0, 256, .inl ta19)), (a26, .inl (C 0, 256, .inl ta26)), (a33, .inl (C 0, 256, .inl ta33)), (a40, .inl (C 0, 256, .inl ta40))] ++ wK C ad u96_6) := hD
            refine lv_aload_n hx hb dL_points_99 rfl (lv_at hl 1 rfl) ?_
            refine lv_iload hx hb dL_points_100 (lv_at hl 10 rfl) ?_
            refine lv_iconst (v := 1) hx hb dL_points_102 (by decide) ?_
            have hPc : va_P D vwCl ([] ++ wK C ad u96_6) H := bd_P (lc := []) hP [] rfl
            have hDc : va_D A ([] ++ wK C ad u96_6) := bd_D (lc := []) hD [] rfl (by decide)
            have hFc : ∀ q, va_A ([] ++ wK C ad u96_6) H.size q → A q := bd_free (lc := []) hD hS hA [] rfl
            refine va_calli (va_runS (As := [.ref (ad 0), .int x9, .int (1 : Int32)]) (rest := [.int r96]) ⟨hx, hb, hml, hown, hts⟩ (met_L_sum l hst D C ad x9 (1 : Int32) u96_6 H.size _ hwp) (va_cwS 3 hts gc_L_101 rfl rfl rfl (by decide +kernel) ⟨Nat.le_of_ble_eq_true rfl, Nat.le_of_ble_eq_true rfl⟩) ⟨fun a U g mk q => by obtain ⟨q0, q1, qP, qK, qD, qT⟩ := q; exact ⟨q0, q1, qP, va_K.moved (u := U) (U := U.calling g mk a) (Vm.Alike.refl U.vm) qK, qD, qT.mv (U := U.calling g mk a) (State.WarmedH.refl U)⟩, fun U hU hW => ⟨rfl, by rw [hU], by rw [hU]; exact hPc, va_K.moved hW.alike hK, hDc.weaken (fun _ _ _ _ => trivial), hT.call hS hFc hU hW⟩⟩ rfl rfl hl.1 rfl (lv_room (Nat.le_of_ble_eq_true rfl)) dL_points_103 ⟨Nat.le_of_ble_eq_true rfl, Nat.le_of_ble_eq_true rfl⟩) hS (fun q _ h => hFc q h) hFc (fun r103 u t H1 locs ht hvm hwp hB hz1 hk1 hS => ?_)
            obtain ⟨u103_7, rfl⟩ : ∃ z, z = u := ⟨_, rfl⟩
            obtain ⟨hP1, -, hD1⟩ := hB
            rw [ht] at hP1
            obtain ⟨hP, hD⟩ := bd_join (lr := [(a13, .inl (C 0, 256, .inl ta13)), (a19, .inl (C 0, 256, .inl ta19)), (a26, .inl (C 0, 256, .inl ta26)), (a33, .inl (C 0, 256, .inl ta33)), (a40, .inl (C 0, 256, .inl ta40))]) (l1 := []) (b1 := wK C ad u103_7) hP hD [] [0, 1, 2, 3, 4] rfl rfl (by decide) (by decide) hk1 hFc hP1 hD1
            generalize H1 = H at hP hS ⊢
            have hP : va_P D vwCl ([(a13, .inl (C 0, 256, .inl ta13)), (a19, .inl (C 0, 256, .inl ta19)), (a26, .inl (C 0, 256, .inl ta26)), (a33, .inl (C 0, 256, .inl ta33)), (a40, .inl (C 0, 256, .inl ta40))] ++ wK C ad u103_7) H := hP
            have hD : va_D A ([(a13, .inl (C 0, 256, .inl ta13)), (a19, .inl (C 0, 256, .inl ta19)), (a26, .inl (C 0, 256, .inl ta26)), (a33, .inl (C 0, 256, .inl ta33)), (a40, .inl (C 0, 256, .inl ta40))] ++ wK C ad u103_7) := hD
            refine lv_icmp_ne (tgt := 126) hx hb dL_points_106 (by decide) (fun c106 => ?_) (fun c106 => ?_)
            · have hwp := hwp.1 c106
              refine lv_iconst (v := 0) hx hb dL_points_126 (by decide) ?_
              have hP9 : va_P D vwCl ([] ++ wK C ad u103_7) H := bd_P (lc := []) hP [] rfl
              have hD9 : va_D A ([] ++ wK C ad u103_7) := bd_D (lc := []) hD [] rfl (by decide)
              refine W.widen (k := 8) (n := 2048) (Nat.le_of_ble_eq_true rfl) (Nat.le_of_ble_eq_true rfl) ?_
              exact W.zret (v := (0 : Int32)) (ty := .boolean) hx hb hr rfl (fun t ht hW => ⟨⟨(0 : Int32), (u103_7), rfl, hwp, by rw [ht]; exact hP9, va_K.moved hW.alike hK, hD9⟩, hS.F ht⟩) hS.2.2 dL_points_127
            · have hwp := hwp.2 c106
              refine lv_aload_n hx hb dL_points_109 rfl (lv_at hl 1 rfl) ?_
              refine lv_iload hx hb dL_points_110 (lv_at hl 10 rfl) ?_
              refine lv_iconst (v := 2) hx hb dL_points_112 (by decide) ?_
              have hPc : va_P D vwCl ([] ++ wK C ad u103_7) H := bd_P (lc := []) hP [] rfl
              have hDc : va_D A ([] ++ wK C ad u103_7) := bd_D (lc := []) hD [] rfl (by decide)
              have hFc : ∀ q, va_A ([] ++ wK C ad u103_7) H.size q → A q := bd_free (lc := []) hD hS hA [] rfl
              refine va_calli (va_runV (As := [.int x9, .int (2 : Int32)]) (rest := []) ⟨hx, hb, hml, hown, hts⟩ (mk_X10_sum l hst D C ad x9 (2 : Int32) u103_7 H.size _ hwp) (cwV 2 hts gc_L_122 rfl rfl rfl (by decide +kernel) ⟨Nat.le_of_ble_eq_true rfl, Nat.le_of_ble_eq_true rfl⟩) ⟨fun a U g mk q => by obtain ⟨q0, q1, qP, qK, qD, qT⟩ := q; exact ⟨q0, q1, qP, va_K.moved (u := U) (U := U.calling g mk a) (Vm.Alike.refl U.vm) qK, qD, qT.mv (U := U.calling g mk a) (State.WarmedH.refl U)⟩, va_recv hK hPc (ci := 10) (q0 := 0) rfl rfl, fun U hU hW => ⟨rfl, by rw [hU], by rw [hU]; exact hPc, va_K.moved hW.alike hK, hDc.weaken (fun _ _ _ _ => trivial), hT.call hS hFc hU hW⟩⟩ rfl rfl hl.1 rfl (lv_room (Nat.le_of_ble_eq_true rfl)) dL_points_113 ⟨Nat.le_of_ble_eq_true rfl, Nat.le_of_ble_eq_true rfl⟩) hS (fun q _ h => hFc q h) hFc (fun r113 u t H1 locs ht hvm hwp hB hz1 hk1 hS => ?_)
              obtain ⟨u113_8, rfl⟩ : ∃ z, z = u := ⟨_, rfl⟩
              obtain ⟨hP1, -, hD1⟩ := hB
              rw [ht] at hP1
              obtain ⟨hP, hD⟩ := bd_join (lr := [(a13, .inl (C 0, 256, .inl ta13)), (a19, .inl (C 0, 256, .inl ta19)), (a26, .inl (C 0, 256, .inl ta26)), (a33, .inl (C 0, 256, .inl ta33)), (a40, .inl (C 0, 256, .inl ta40))]) (l1 := []) (b1 := wK C ad u113_8) hP hD [] [0, 1, 2, 3, 4] rfl rfl (by decide) (by decide) hk1 hFc hP1 hD1
              generalize H1 = H at hP hS ⊢
              have hP : va_P D vwCl ([(a13, .inl (C 0, 256, .inl ta13)), (a19, .inl (C 0, 256, .inl ta19)), (a26, .inl (C 0, 256, .inl ta26)), (a33, .inl (C 0, 256, .inl ta33)), (a40, .inl (C 0, 256, .inl ta40))] ++ wK C ad u113_8) H := hP
              have hD : va_D A ([(a13, .inl (C 0, 256, .inl ta13)), (a19, .inl (C 0, 256, .inl ta19)), (a26, .inl (C 0, 256, .inl ta26)), (a33, .inl (C 0, 256, .inl ta33)), (a40, .inl (C 0, 256, .inl ta40))] ++ wK C ad u113_8) := hD
              refine lv_aload_n hx hb dL_points_116 rfl (lv_at hl 1 rfl) ?_
              refine lv_iload hx hb dL_points_117 (lv_at hl 10 rfl) ?_
              refine lv_iconst (v := 2) hx hb dL_points_119 (by decide) ?_
              have hPc : va_P D vwCl ([] ++ wK C ad u113_8) H := bd_P (lc := []) hP [] rfl
              have hDc : va_D A ([] ++ wK C ad u113_8) := bd_D (lc := []) hD [] rfl (by decide)
              have hFc : ∀ q, va_A ([] ++ wK C ad u113_8) H.size q → A q := bd_free (lc := []) hD hS hA [] rfl
              refine va_calli (va_runS (As := [.ref (ad 0), .int x9, .int (2 : Int32)]) (rest := [.int r113]) ⟨hx, hb, hml, hown, hts⟩ (met_L_sum l hst D C ad x9 (2 : Int32) u113_8 H.size _ hwp) (va_cwS 3 hts gc_L_101 rfl rfl rfl (by decide +kernel) ⟨Nat.le_of_ble_eq_true rfl, Nat.le_of_ble_eq_true rfl⟩) ⟨fun a U g mk q => by obtain ⟨q0, q1, qP, qK, qD, qT⟩ := q; exact ⟨q0, q1, qP, va_K.moved (u := U) (U := U.calling g mk a) (Vm.Alike.refl U.vm) qK, qD, qT.mv (U := U.calling g mk a) (State.WarmedH.refl U)⟩, fun U hU hW => ⟨rfl, by rw [hU], by rw [hU]; exact hPc, va_K.moved hW.alike hK, hDc.weaken (fun _ _ _ _ => trivial), hT.call hS hFc hU hW⟩⟩ rfl rfl hl.1 rfl (lv_room (Nat.le_of_ble_eq_true rfl)) dL_points_120 ⟨Nat.le_of_ble_eq_true rfl, Nat.le_of_ble_eq_true rfl⟩) hS (fun q _ h => hFc q h) hFc (fun r120 u t H1 locs ht hvm hwp hB hz1 hk1 hS => ?_)
              obtain ⟨u120_9, rfl⟩ : ∃ z, z = u := ⟨_, rfl⟩
              obtain ⟨hP1, -, hD1⟩ := hB
              rw [ht] at hP1
              obtain ⟨hP, hD⟩ := bd_join (lr := [(a13, .inl (C 0, 256, .inl ta13)), (a19, .inl (C 0, 256, .inl ta19)), (a26, .inl (C 0, 256, .inl ta26)), (a33, .inl (C 0, 256, .inl ta33)), (a40, .inl (C 0, 256, .inl ta40))]) (l1 := []) (b1 := wK C ad u120_9) hP hD [] [0, 1, 2, 3, 4] rfl rfl (by decide) (by decide) hk1 hFc hP1 hD1
              generalize H1 = H at hP hS ⊢
              have hP : va_P D vwCl ([(a13, .inl (C 0, 256, .inl ta13)), (a19, .inl (C 0, 256, .inl ta19)), (a26, .inl (C 0, 256, .inl ta26)), (a33, .inl (C 0, 256, .inl ta33)), (a40, .inl (C 0, 256, .inl ta40))] ++ wK C ad u120_9) H := hP
              have hD : va_D A ([(a13, .inl (C 0, 256, .inl ta13)), (a19, .inl (C 0, 256, .inl ta19)), (a26, .inl (C 0, 256, .inl ta26)), (a33, .inl (C 0, 256, .inl ta33)), (a40, .inl (C 0, 256, .inl ta40))] ++ wK C ad u120_9) := hD
              refine lv_icmp_eq (tgt := 128) hx hb dL_points_123 (by decide) (fun c123 => ?_) (fun c123 => ?_)
              · have hwp := hwp.1 c123
                refine lv_iload hx hb dL_points_128 (lv_at hl 0 rfl) ?_
                refine lv_if_eq (tgt := 136) hx hb dL_points_130 (by decide) (fun c130 => ?_) (fun c130 => ?_)
                · have hwp := hwp.1 c130
                  refine lv_iinc (v := x2 + 1) (lv' := [(2, .int (x2 + 1)), (10, .int r59), (0, .ref (ad 0)), (1, .int x1), (3, .ref a13), (4, .ref a19), (5, .ref a26), (6, .ref a33), (7, .ref a40), (8, .int x8), (9, .int x9)]) hx hb dL_points_136 hl (k := 3) rfl rfl (by decide) rfl (fun ls hl => ?_)
                  refine lv_aload_n hx hb dL_points_139 rfl (lv_at hl 2 rfl) ?_
                  refine lv_iload hx hb dL_points_140 (lv_at hl 10 rfl) ?_
                  refine lv_iconst (v := 1) hx hb dL_points_142 (by decide) ?_
                  have hPc : va_P D vwCl ([] ++ wK C ad u120_9) H := bd_P (lc := []) hP [] rfl
                  have hDc : va_D A ([] ++ wK C ad u120_9) := bd_D (lc := []) hD [] rfl (by decide)
                  have hFc : ∀ q, va_A ([] ++ wK C ad u120_9) H.size q → A q := bd_free (lc := []) hD hS hA [] rfl
                  refine va_calli (va_runS (As := [.ref (ad 0), .int x9, .int (1 : Int32)]) (rest := []) ⟨hx, hb, hml, hown, hts⟩ (met_L_sum l hst D C ad x9 (1 : Int32) u120_9 H.size _ hwp) (va_cwS 3 hts gc_L_101 rfl rfl rfl (by decide +kernel) ⟨Nat.le_of_ble_eq_true rfl, Nat.le_of_ble_eq_true rfl⟩) ⟨fun a U g mk q => by obtain ⟨q0, q1, qP, qK, qD, qT⟩ := q; exact ⟨q0, q1, qP, va_K.moved (u := U) (U := U.calling g mk a) (Vm.Alike.refl U.vm) qK, qD, qT.mv (U := U.calling g mk a) (State.WarmedH.refl U)⟩, fun U hU hW => ⟨rfl, by rw [hU], by rw [hU]; exact hPc, va_K.moved hW.alike hK, hDc.weaken (fun _ _ _ _ => trivial), hT.call hS hFc hU hW⟩⟩ rfl rfl hl.1 rfl (lv_room (Nat.le_of_ble_eq_true rfl)) dL_points_143 ⟨Nat.le_of_ble_eq_true rfl, Nat.le_of_ble_eq_true rfl⟩) hS (fun q _ h => hFc q h) hFc (fun r143 u t H1 locs ht hvm hwp hB hz1 hk1 hS => ?_)
                  obtain ⟨u143_10, rfl⟩ : ∃ z, z = u := ⟨_, rfl⟩
                  obtain ⟨hP1, -, hD1⟩ := hB
                  rw [ht] at hP1
                  obtain ⟨hP, hD⟩ := bd_join (lr := [(a13, .inl (C 0, 256, .inl ta13)), (a19, .inl (C 0, 256, .inl ta19)), (a26, .inl (C 0, 256, .inl ta26)), (a33, .inl (C 0, 256, .inl ta33)), (a40, .inl (C 0, 256, .inl ta40))]) (l1 := []) (b1 := wK C ad u143_10) hP hD [] [0, 1, 2, 3, 4] rfl rfl (by decide) (by decide) hk1 hFc hP1 hD1
                  generalize H1 = H at hP hS ⊢
                  have hP : va_P D vwCl ([(a13, .inl (C 0, 256, .inl ta13)), (a19, .inl (C 0, 256, .inl ta19)), (a26, .inl (C 0, 256, .inl ta26)), (a33, .inl (C 0, 256, .inl ta33)), (a40, .inl (C 0, 256, .inl ta40))] ++ wK C ad u143_10) H := hP
                  have hD : va_D A ([(a13, .inl (C 0, 256, .inl ta13)), (a19, .inl (C 0, 256, .inl ta19)), (a26, .inl (C 0, 256, .inl ta26)), (a33, .inl (C 0, 256, .inl ta33)), (a40, .inl (C 0, 256, .inl ta40))] ++ wK C ad u143_10) := hD
                  refine lv_istore (lv' := [(11, .int r143), (2, .int (x2 + 1)), (10, .int r59), (0, .ref (ad 0)), (1, .int x1), (3, .ref a13), (4, .ref a19), (5, .ref a26), (6, .ref a33), (7, .ref a40), (8, .int x8), (9, .int x9)]) hx hb dL_points_146 hl (by decide) rfl (fun ls hl => ?_)
                  refine lv_aload_n hx hb dL_points_148 rfl (lv_at hl 3 rfl) ?_
                  refine lv_iload hx hb dL_points_149 (lv_at hl 11 rfl) ?_
                  refine lv_iconst (v := 2) hx hb dL_points_151 (by decide) ?_
                  have hPc : va_P D vwCl ([] ++ wK C ad u143_10) H := bd_P (lc := []) hP [] rfl
                  have hDc : va_D A ([] ++ wK C ad u143_10) := bd_D (lc := []) hD [] rfl (by decide)
                  have hFc : ∀ q, va_A ([] ++ wK C ad u143_10) H.size q → A q := bd_free (lc := []) hD hS hA [] rfl
                  refine va_calli (va_runS (As := [.ref (ad 0), .int x9, .int (2 : Int32)]) (rest := []) ⟨hx, hb, hml, hown, hts⟩ (met_L_sum l hst D C ad x9 (2 : Int32) u143_10 H.size _ hwp) (va_cwS 3 hts gc_L_101 rfl rfl rfl (by decide +kernel) ⟨Nat.le_of_ble_eq_true rfl, Nat.le_of_ble_eq_true rfl⟩) ⟨fun a U g mk q => by obtain ⟨q0, q1, qP, qK, qD, qT⟩ := q; exact ⟨q0, q1, qP, va_K.moved (u := U) (U := U.calling g mk a) (Vm.Alike.refl U.vm) qK, qD, qT.mv (U := U.calling g mk a) (State.WarmedH.refl U)⟩, fun U hU hW => ⟨rfl, by rw [hU], by rw [hU]; exact hPc, va_K.moved hW.alike hK, hDc.weaken (fun _ _ _ _ => trivial), hT.call hS hFc hU hW⟩⟩ rfl rfl hl.1 rfl (lv_room (Nat.le_of_ble_eq_true rfl)) dL_points_152 ⟨Nat.le_of_ble_eq_true rfl, Nat.le_of_ble_eq_true rfl⟩) hS (fun q _ h => hFc q h) hFc (fun r152 u t H1 locs ht hvm hwp hB hz1 hk1 hS => ?_)
                  obtain ⟨u152_11, rfl⟩ : ∃ z, z = u := ⟨_, rfl⟩
                  obtain ⟨hP1, -, hD1⟩ := hB
                  rw [ht] at hP1
                  obtain ⟨hP, hD⟩ := bd_join (lr := [(a13, .inl (C 0, 256, .inl ta13)), (a19, .inl (C 0, 256, .inl ta19)), (a26, .inl (C 0, 256, .inl ta26)), (a33, .inl (C 0, 256, .inl ta33)), (a40, .inl (C 0, 256, .inl ta40))]) (l1 := []) (b1 := wK C ad u152_11) hP hD [] [0, 1, 2, 3, 4] rfl rfl (by decide) (by decide) hk1 hFc hP1 hD1
                  generalize H1 = H at hP hS ⊢
                  have hP : va_P D vwCl ([(a13, .inl (C 0, 256, .inl ta13)), (a19, .inl (C 0, 256, .inl ta19)), (a26, .inl (C 0, 256, .inl ta26)), (a33, .inl (C 0, 256, .inl ta33)), (a40, .inl (C 0, 256, .inl ta40))] ++ wK C ad u152_11) H := hP
                  have hD : va_D A ([(a13, .inl (C 0, 256, .inl ta13)), (a19, .inl (C 0, 256, .inl ta19)), (a26, .inl (C 0, 256, .inl ta26)), (a33, .inl (C 0, 256, .inl ta33)), (a40, .inl (C 0, 256, .inl ta40))] ++ wK C ad u152_11) := hD
                  refine lv_istore (lv' := [(12, .int r152), (11, .int r143), (2, .int (x2 + 1)), (10, .int r59), (0, .ref (ad 0)), (1, .int x1), (3, .ref a13), (4, .ref a19), (5, .ref a26), (6, .ref a33), (7, .ref a40), (8, .int x8), (9, .int x9)]) hx hb dL_points_155 hl (by decide) rfl (fun ls hl => ?_)
                  refine lv_iconst (v := 0) hx hb dL_points_157 (by decide) ?_
                  refine lv_istore (lv' := [(13, .int (0 : Int32)), (12, .int r152), (11, .int r143), (2, .int (x2 + 1)), (10, .int r59), (0, .ref (ad 0)), (1, .int x1), (3, .ref a13), (4, .ref a19), (5, .ref a26), (6, .ref a33), (7, .ref a40), (8, .int x8), (9, .int x9)]) hx hb dL_points_158 hl (by decide) rfl (fun ls hl => ?_)
                  have hl9 := lv_sub (l' := [(0, .ref (ad 0)), (1, .int x1), (2, .int (x2 + 1)), (3, .ref a13), (4, .ref a19), (5, .ref a26), (6, .ref a33), (7, .ref a40), (8, .int x8), (9, .int x9), (11, .int r143), (12, .int r152), (13, .int (0 : Int32))]) hl [5, 6, 3, 7, 8, 9, 10, 11, 12, 13, 2, 1, 0] rfl
                  have hP9 : va_P D vwCl ([(a13, .inl (C 0, 256, .inl ta13)), (a19, .inl (C 0, 256, .inl ta19)), (a26, .inl (C 0, 256, .inl ta26)), (a33, .inl (C 0, 256, .inl ta33)), (a40, .inl (C 0, 256, .inl ta40))] ++ wK C ad u152_11) H := bd_P (lc := [(a13, .inl (C 0, 256, .inl ta13)), (a19, .inl (C 0, 256, .inl ta19)), (a26, .inl (C 0, 256, .inl ta26)), (a33, .inl (C 0, 256, .inl ta33)), (a40, .inl (C 0, 256, .inl ta40))]) hP [0, 1, 2, 3, 4] rfl
                  have hD9 : va_D A ([(a13, .inl (C 0, 256, .inl ta13)), (a19, .inl (C 0, 256, .inl ta19)), (a26, .inl (C 0, 256, .inl ta26)), (a33, .inl (C 0, 256, .inl ta33)), (a40, .inl (C 0, 256, .inl ta40))] ++ wK C ad u152_11) := bd_D (lc := [(a13, .inl (C 0, 256, .inl ta13)), (a19, .inl (C 0, 256, .inl ta19)), (a26, .inl (C 0, 256, .inl ta26)), (a33, .inl (C 0, 256, .inl ta33)), (a40, .inl (C 0, 256, .inl ta40))]) hD [0, 1, 2, 3, 4] rfl (by decide)
                  obtain ⟨nn9, hwp⟩ := hwp
                  refine HL160 a13 a19 a26 a33 a40 x1 (x2 + 1) x8 x9 r143 r152 u152_11 ta13 ta19 ta26 ta33 ta40 _ (fun x13 H locs ls hl hP hD hS hwp => ?_) nn9 (0 : Int32) H locs ls hl9 hP9 hD9 hS hwp
                  refine lv_iload hx hb dL_points_192 (lv_at hl 12 rfl) ?_
                  refine lv_iload hx hb dL_points_194 (lv_at hl 8 rfl) ?_
                  refine lv_icmp_ne (tgt := 229) hx hb dL_points_196 (by decide) (fun c196 => ?_) (fun c196 => ?_)
                  · have hwp := hwp.1 c196
                    have hl9 := lv_sub (l' := [(0, .ref (ad 0)), (1, .int x1), (2, .int (x2 + 1)), (3, .ref a13), (4, .ref a19), (5, .ref a26), (6, .ref a33), (7, .ref a40), (8, .int x8), (9, .int x9), (13, .int x13)]) hl [0, 1, 2, 3, 4, 5, 6, 7, 8, 9, 12] rfl
                    have hP9 : va_P D vwCl ([(a13, .inl (C 0, 256, .inl ta13)), (a19, .inl (C 0, 256, .inl ta19)), (a26, .inl (C 0, 256, .inl ta26)), (a33, .inl (C 0, 256, .inl ta33)), (a40, .inl (C 0, 256, .inl ta40))] ++ wK C ad u152_11) H := bd_P (lc := [(a13, .inl (C 0, 256, .inl ta13)), (a19, .inl (C 0, 256, .inl ta19)), (a26, .inl (C 0, 256, .inl ta26)), (a33, .inl (C 0, 256, .inl ta33)), (a40, .inl (C 0, 256, .inl ta40))]) hP [0, 1, 2, 3, 4] rfl
                    have hD9 : va_D A ([(a13, .inl (C 0, 256, .inl ta13)), (a19, .inl (C 0, 256, .inl ta19)), (a26, .inl (C 0, 256, .inl ta26)), (a33, .inl (C 0, 256, .inl ta33)), (a40, .inl (C 0, 256, .inl ta40))] ++ wK C ad u152_11) := bd_D (lc := [(a13, .inl (C 0, 256, .inl ta13)), (a19, .inl (C 0, 256, .inl ta19)), (a26, .inl (C 0, 256, .inl ta26)), (a33, .inl (C 0, 256, .inl ta33)), (a40, .inl (C 0, 256, .inl ta40))]) hD [0, 1, 2, 3, 4] rfl (by decide)
                    exact HB229 a13 a19 a26 a33 a40 x1 _ (fun z0 z1 z2 z3 z4 z5 z6 z7 z8 H locs ls hl hP hD hS hwp => ih z0 z1 z2 z3 z4 z5 z6 z7 z8 H locs ls hl hP hD hS hwp) _ hk271 (x2 + 1) x8 x9 x13 u152_11 ta13 ta19 ta26 ta33 ta40 H locs ls hl9 hP9 hD9 hS hwp
                  · have hwp := hwp.2 c196
                    refine lv_aload_n hx hb dL_points_199 rfl (lv_at hl 3 rfl) ?_
                    refine lv_iload hx hb dL_points_200 (lv_at hl 12 rfl) ?_
                    refine lv_iload hx hb dL_points_202 (lv_at hl 10 rfl) ?_
                    obtain ⟨hi204, hwp⟩ := hwp
                    refine va_iast (D := D) hx hb hK hP hD hS 0 0 rfl rfl hi204 dL_points_204 (fun H locs hP hD hS => ?_)
                    have hP : va_P D vwCl ([(a13, .inl (C 0, 256, .inl (upd ta13 x13.toNatClampNeg r143))), (a19, .inl (C 0, 256, .inl ta19)), (a26, .inl (C 0, 256, .inl ta26)), (a33, .inl (C 0, 256, .inl ta33)), (a40, .inl (C 0, 256, .inl ta40))] ++ wK C ad u152_11) H := hP
                    have hD : va_D A ([(a13, .inl (C 0, 256, .inl (upd ta13 x13.toNatClampNeg r143))), (a19, .inl (C 0, 256, .inl ta19)), (a26, .inl (C 0, 256, .inl ta26)), (a33, .inl (C 0, 256, .inl ta33)), (a40, .inl (C 0, 256, .inl ta40))] ++ wK C ad u152_11) := hD
                    refine lv_aload hx hb dL_points_205 (lv_at hl 4 rfl) ?_
                    refine lv_iload hx hb dL_points_207 (lv_at hl 12 rfl) ?_
                    refine lv_iload hx hb dL_points_209 (lv_at hl 11 rfl) ?_
                    obtain ⟨hi211, hwp⟩ := hwp
                    refine va_iast (D := D) hx hb hK hP hD hS 1 0 rfl rfl hi211 dL_points_211 (fun H locs hP hD hS => ?_)
                    have hP : va_P D vwCl ([(a13, .inl (C 0, 256, .inl (upd ta13 x13.toNatClampNeg r143))), (a19, .inl (C 0, 256, .inl (upd ta19 x13.toNatClampNeg r152))), (a26, .inl (C 0, 256, .inl ta26)), (a33, .inl (C 0, 256, .inl ta33)), (a40, .inl (C 0, 256, .inl ta40))] ++ wK C ad u152_11) H := hP
                    have hD : va_D A ([(a13, .inl (C 0, 256, .inl (upd ta13 x13.toNatClampNeg r143))), (a19, .inl (C 0, 256, .inl (upd ta19 x13.toNatClampNeg r152))), (a26, .inl (C 0, 256, .inl ta26)), (a33, .inl (C 0, 256, .inl ta33)), (a40, .inl (C 0, 256, .inl ta40))] ++ wK C ad u152_11) := hD
                    refine lv_aload hx hb dL_points_212 (lv_at hl 5 rfl) ?_
                    refine lv_iload hx hb dL_points_214 (lv_at hl 12 rfl) ?_
                    refine lv_iload hx hb dL_points_216 (lv_at hl 9 rfl) ?_
                    obtain ⟨hi218, hwp⟩ := hwp
                    refine va_iast (D := D) hx hb hK hP hD hS 2 0 rfl rfl hi218 dL_points_218 (fun H locs hP hD hS => ?_)
                    have hP : va_P D vwCl ([(a13, .inl (C 0, 256, .inl (upd ta13 x13.toNatClampNeg r143))), (a19, .inl (C 0, 256, .inl (upd ta19 x13.toNatClampNeg r152))), (a26, .inl (C 0, 256, .inl (upd ta26 x13.toNatClampNeg x9))), (a33, .inl (C 0, 256, .inl ta33)), (a40, .inl (C 0, 256, .inl ta40))] ++ wK C ad u152_11) H := hP
                    have hD : va_D A ([(a13, .inl (C 0, 256, .inl (upd ta13 x13.toNatClampNeg r143))), (a19, .inl (C 0, 256, .inl (upd ta19 x13.toNatClampNeg r152))), (a26, .inl (C 0, 256, .inl (upd ta26 x13.toNatClampNeg x9))), (a33, .inl (C 0, 256, .inl ta33)), (a40, .inl (C 0, 256, .inl ta40))] ++ wK C ad u152_11) := hD
                    refine lv_aload hx hb dL_points_219 (lv_at hl 6 rfl) ?_
                    refine lv_iload hx hb dL_points_221 (lv_at hl 12 rfl) ?_
                    refine lv_iload hx hb dL_points_223 (lv_at hl 9 rfl) ?_
                    obtain ⟨hi225, hwp⟩ := hwp
                    refine va_iast (D := D) hx hb hK hP hD hS 3 0 rfl rfl hi225 dL_points_225 (fun H locs hP hD hS => ?_)
                    have hP : va_P D vwCl ([(a13, .inl (C 0, 256, .inl (upd ta13 x13.toNatClampNeg r143))), (a19, .inl (C 0, 256, .inl (upd ta19 x13.toNatClampNeg r152))), (a26, .inl (C 0, 256, .inl (upd ta26 x13.toNatClampNeg x9))), (a33, .inl (C 0, 256, .inl (upd ta33 x13.toNatClampNeg x9))), (a40, .inl (C 0, 256, .inl ta40))] ++ wK C ad u152_11) H := hP
                    have hD : va_D A ([(a13, .inl (C 0, 256, .inl (upd ta13 x13.toNatClampNeg r143))), (a19, .inl (C 0, 256, .inl (upd ta19 x13.toNatClampNeg r152))), (a26, .inl (C 0, 256, .inl (upd ta26 x13.toNatClampNeg x9))), (a33, .inl (C 0, 256, .inl (upd ta33 x13.toNatClampNeg x9))), (a40, .inl (C 0, 256, .inl ta40))] ++ wK C ad u152_11) := hD
                    refine lv_iinc (v := x8 + 1) (lv' := [(8, .int (x8 + 1)), (0, .ref (ad 0)), (1, .int x1), (2, .int (x2 + 1)), (3, .ref a13), (4, .ref a19), (5, .ref a26), (6, .ref a33), (7, .ref a40), (9, .int x9), (11, .int r143), (12, .int r152), (13, .int x13)]) hx hb dL_points_226 hl (k := 8) rfl rfl (by decide) rfl (fun ls hl => ?_)
                    have hl9 := lv_sub (l' := [(0, .ref (ad 0)), (1, .int x1), (2, .int (x2 + 1)), (3, .ref a13), (4, .ref a19), (5, .ref a26), (6, .ref a33), (7, .ref a40), (8, .int (x8 + 1)), (9, .int x9), (13, .int x13)]) hl [1, 2, 3, 4, 5, 6, 7, 8, 0, 9, 12] rfl
                    have hP9 : va_P D vwCl ([(a13, .inl (C 0, 256, .inl (upd ta13 x13.toNatClampNeg r143))), (a19, .inl (C 0, 256, .inl (upd ta19 x13.toNatClampNeg r152))), (a26, .inl (C 0, 256, .inl (upd ta26 x13.toNatClampNeg x9))), (a33, .inl (C 0, 256, .inl (upd ta33 x13.toNatClampNeg x9))), (a40, .inl (C 0, 256, .inl ta40))] ++ wK C ad u152_11) H := bd_P (lc := [(a13, .inl (C 0, 256, .inl (upd ta13 x13.toNatClampNeg r143))), (a19, .inl (C 0, 256, .inl (upd ta19 x13.toNatClampNeg r152))), (a26, .inl (C 0, 256, .inl (upd ta26 x13.toNatClampNeg x9))), (a33, .inl (C 0, 256, .inl (upd ta33 x13.toNatClampNeg x9))), (a40, .inl (C 0, 256, .inl ta40))]) hP [0, 1, 2, 3, 4] rfl
                    have hD9 : va_D A ([(a13, .inl (C 0, 256, .inl (upd ta13 x13.toNatClampNeg r143))), (a19, .inl (C 0, 256, .inl (upd ta19 x13.toNatClampNeg r152))), (a26, .inl (C 0, 256, .inl (upd ta26 x13.toNatClampNeg x9))), (a33, .inl (C 0, 256, .inl (upd ta33 x13.toNatClampNeg x9))), (a40, .inl (C 0, 256, .inl ta40))] ++ wK C ad u152_11) := bd_D (lc := [(a13, .inl (C 0, 256, .inl (upd ta13 x13.toNatClampNeg r143))), (a19, .inl (C 0, 256, .inl (upd ta19 x13.toNatClampNeg r152))), (a26, .inl (C 0, 256, .inl (upd ta26 x13.toNatClampNeg x9))), (a33, .inl (C 0, 256, .inl (upd ta33 x13.toNatClampNeg x9))), (a40, .inl (C 0, 256, .inl ta40))]) hD [0, 1, 2, 3, 4] rfl (by decide)
                    exact HB229 a13 a19 a26 a33 a40 x1 _ (fun z0 z1 z2 z3 z4 z5 z6 z7 z8 H locs ls hl hP hD hS hwp => ih z0 z1 z2 z3 z4 z5 z6 z7 z8 H locs ls hl hP hD hS hwp) _ hk271 (x2 + 1) (x8 + 1) x9 x13 u152_11 (upd ta13 x13.toNatClampNeg r143) (upd ta19 x13.toNatClampNeg r152) (upd ta26 x13.toNatClampNeg x9) (upd ta33 x13.toNatClampNeg x9) ta40 H locs ls hl9 hP9 hD9 hS hwp
                · have hwp := hwp.2 c130
                  refine lv_goto (tgt := 265) hx hb dL_points_133 (by decide) ?_
                  refine lv_iinc (v := x9 + 1) (lv' := [(9, .int (x9 + 1)), (10, .int r59), (0, .ref (ad 0)), (1, .int x1), (2, .int x2), (3, .ref a13), (4, .ref a19), (5, .ref a26), (6, .ref a33), (7, .ref a40), (8, .int x8)]) hx hb dL_points_265 hl (k := 10) rfl rfl (by decide) rfl (fun ls hl => ?_)
                  refine lv_goto (tgt := 50) hx hb dL_points_268 (by decide) ?_
                  have hl9 := lv_sub (l' := [(0, .ref (ad 0)), (1, .int x1), (2, .int x2), (3, .ref a13), (4, .ref a19), (5, .ref a26), (6, .ref a33), (7, .ref a40), (8, .int x8), (9, .int (x9 + 1))]) hl [2, 3, 4, 5, 6, 7, 8, 9, 10, 0] rfl
                  have hP9 : va_P D vwCl ([(a13, .inl (C 0, 256, .inl ta13)), (a19, .inl (C 0, 256, .inl ta19)), (a26, .inl (C 0, 256, .inl ta26)), (a33, .inl (C 0, 256, .inl ta33)), (a40, .inl (C 0, 256, .inl ta40))] ++ wK C ad u120_9) H := bd_P (lc := [(a13, .inl (C 0, 256, .inl ta13)), (a19, .inl (C 0, 256, .inl ta19)), (a26, .inl (C 0, 256, .inl ta26)), (a33, .inl (C 0, 256, .inl ta33)), (a40, .inl (C 0, 256, .inl ta40))]) hP [0, 1, 2, 3, 4] rfl
                  have hD9 : va_D A ([(a13, .inl (C 0, 256, .inl ta13)), (a19, .inl (C 0, 256, .inl ta19)), (a26, .inl (C 0, 256, .inl ta26)), (a33, .inl (C 0, 256, .inl ta33)), (a40, .inl (C 0, 256, .inl ta40))] ++ wK C ad u120_9) := bd_D (lc := [(a13, .inl (C 0, 256, .inl ta13)), (a19, .inl (C 0, 256, .inl ta19)), (a26, .inl (C 0, 256, .inl ta26)), (a33, .inl (C 0, 256, .inl ta33)), (a40, .inl (C 0, 256, .inl ta40))]) hD [0, 1, 2, 3, 4] rfl (by decide)
                  exact ih x2 x8 (x9 + 1) u120_9 ta13 ta19 ta26 ta33 ta40 H locs ls hl9 hP9 hD9 hS hwp
              · have hwp := hwp.2 c123
                refine lv_iconst (v := 0) hx hb dL_points_126 (by decide) ?_
                have hP9 : va_P D vwCl ([] ++ wK C ad u120_9) H := bd_P (lc := []) hP [] rfl
                have hD9 : va_D A ([] ++ wK C ad u120_9) := bd_D (lc := []) hD [] rfl (by decide)
                refine W.widen (k := 8) (n := 2048) (Nat.le_of_ble_eq_true rfl) (Nat.le_of_ble_eq_true rfl) ?_
                exact W.zret (v := (0 : Int32)) (ty := .boolean) hx hb hr rfl (fun t ht hW => ⟨⟨(0 : Int32), (u120_9), rfl, hwp, by rw [ht]; exact hP9, va_K.moved hW.alike hK, hD9⟩, hS.F ht⟩) hS.2.2 dL_points_127
  have HL338 : ∀ (a13 : Nat) (a19 : Nat) (a26 : Nat) (a33 : Nat) (a40 : Nat) (x1 : Int32) (x2 : Int32) (x8 : Int32) (x9 : Int32) (x10 : Int32) (x11 : Int32) (x12 : Int32) (x13 : Int32) (x14 : Int32) (x15 : Int32) (d : DT) (ta13 : Nat → Int32) (ta19 : Nat → Int32) (ta26 : Nat → Int32) (ta33 : Nat → Int32) (ta40 : Nat → Int32) (k387 : Int32 → Prop) (hk387 : ∀ (x16 : Int32) (H : Heap) (locs : List Loc) (ls : Array Slot), lv_has ls 18 [(0, .ref (ad 0)), (1, .int x1), (2, .int x2), (3, .ref a13), (4, .ref a19), (5, .ref a26), (6, .ref a33), (7, .ref a40), (8, .int x8), (9, .int x9), (10, .int x10), (11, .int x11), (12, .int x12), (13, .int x13), (14, .int x14), (15, .int x15), (16, .int x16)] → va_P D vwCl ([(a13, .inl (C 0, 256, .inl ta13)), (a19, .inl (C 0, 256, .inl ta19)), (a26, .inl (C 0, 256, .inl ta26)), (a33, .inl (C 0, 256, .inl ta33)), (a40, .inl (C 0, 256, .inl ta40))] ++ wK C ad d) H → va_D A ([(a13, .inl (C 0, 256, .inl ta13)), (a19, .inl (C 0, 256, .inl ta19)), (a26, .inl (C 0, 256, .inl ta26)), (a33, .inl (C 0, 256, .inl ta33)), (a40, .inl (C 0, 256, .inl ta40))] ++ wK C ad d) → va_S A s.heap H locs → k387 x16 → W p l e (headSpec ws_L_points rm_L_points).room s m ([.ref (ad 0)] : List Value).toArray below meth c H locs 5 1280 (MQ below (q_L_points D C ad Q A) ([.ref (ad 0)] : List Value).toArray s 8 2048 A) (F0 m 387 ls [])) (n338 : Nat) (x16 : Int32) (x17 : Int32) (H : Heap) (locs : List Loc) (ls : Array Slot), lv_has ls 18 [(0, .ref (ad 0)), (1, .int x1), (2, .int x2), (3, .ref a13), (4, .ref a19), (5, .ref a26), (6, .ref a33), (7, .ref a40), (8, .int x8), (9, .int x9), (10, .int x10), (11, .int x11), (12, .int x12), (13, .int x13), (14, .int x14), (15, .int x15), (16, .int x16), (17, .int x17)] → va_P D vwCl ([(a13, .inl (C 0, 256, .inl ta13)), (a19, .inl (C 0, 256, .inl ta19)), (a26, .inl (C 0, 256, .inl ta26)), (a33, .inl (C 0, 256, .inl ta33)), (a40, .inl (C 0, 256, .inl ta40))] ++ wK C ad d) H → va_D A ([(a13, .inl (C 0, 256, .inl ta13)), (a19, .inl (C 0, 256, .inl ta19)), (a26, .inl (C 0, 256, .inl ta26)), (a33, .inl (C 0, 256, .inl ta33)), (a40, .inl (C 0, 256, .inl ta40))] ++ wK C ad d) → va_S A s.heap H locs → wp_L_points_L338 x1 x2 x8 x9 x10 x11 x12 x13 x14 x15 d ta13 ta19 ta26 ta33 ta40 k387 Q n338 x16 x17 → W p l e (headSpec ws_L_points rm_L_points).room s m ([.ref (ad 0)] : List Value).toArray below meth c H locs 5 1280 (MQ below (q_L_points D C ad Q A) ([.ref (ad 0)] : List Value).toArray s 8 2048 A) (F0 m 338 ls []) := by
    intro a13 a19 a26 a33 a40 x1 x2 x8 x9 x10 x11 x12 x13 x14 x15 d ta13 ta19 ta26 ta33 ta40 k387 hk387 n338
    induction n338 with
    | zero =>
      intro x16 x17 H locs ls hl hP hD hS hwp
      exact False.elim hwp
    | succ n338 ih =>
      intro x16 x17 H locs ls hl hP hD hS hwp
      unfold wp_L_points_L338 at hwp
      refine lv_iload hx hb dL_points_338 (lv_at hl 17 rfl) ?_
      refine lv_iload hx hb dL_points_340 (lv_at hl 8 rfl) ?_
      refine lv_icmp_ge (tgt := 387) hx hb dL_points_342 (by decide) (fun c342 => ?_) (fun c342 => ?_)
      · have hwp := hwp.1 c342
        have hl9 := lv_sub (l' := [(0, .ref (ad 0)), (1, .int x1), (2, .int x2), (3, .ref a13), (4, .ref a19), (5, .ref a26), (6, .ref a33), (7, .ref a40), (8, .int x8), (9, .int x9), (10, .int x10), (11, .int x11), (12, .int x12), (13, .int x13), (14, .int x14), (15, .int x15), (16, .int x16)]) hl [0, 1, 2, 3, 4, 5, 6, 7, 8, 9, 10, 11, 12, 13, 14, 15, 16] rfl
        have hP9 : va_P D vwCl ([(a13, .inl (C 0, 256, .inl ta13)), (a19, .inl (C 0, 256, .inl ta19)), (a26, .inl (C 0, 256, .inl ta26)), (a33, .inl (C 0, 256, .inl ta33)), (a40, .inl (C 0, 256, .inl ta40))] ++ wK C ad d) H := bd_P (lc := [(a13, .inl (C 0, 256, .inl ta13)), (a19, .inl (C 0, 256, .inl ta19)), (a26, .inl (C 0, 256, .inl ta26)), (a33, .inl (C 0, 256, .inl ta33)), (a40, .inl (C 0, 256, .inl ta40))]) hP [0, 1, 2, 3, 4] rfl
        have hD9 : va_D A ([(a13, .inl (C 0, 256, .inl ta13)), (a19, .inl (C 0, 256, .inl ta19)), (a26, .inl (C 0, 256, .inl ta26)), (a33, .inl (C 0, 256, .inl ta33)), (a40, .inl (C 0, 256, .inl ta40))] ++ wK C ad d) := bd_D (lc := [(a13, .inl (C 0, 256, .inl ta13)), (a19, .inl (C 0, 256, .inl ta19)), (a26, .inl (C 0, 256, .inl ta26)), (a33, .inl (C 0, 256, .inl ta33)), (a40, .inl (C 0, 256, .inl ta40))]) hD [0, 1, 2, 3, 4] rfl (by decide)
        exact hk387 x16 H locs ls hl9 hP9 hD9 hS hwp
      · have hwp := hwp.2 c342
        refine lv_iload hx hb dL_points_345 (lv_at hl 16 rfl) ?_
        refine lv_if_eq (tgt := 387) hx hb dL_points_347 (by decide) (fun c347 => ?_) (fun c347 => ?_)
        · have hwp := hwp.1 c347
          have hl9 := lv_sub (l' := [(0, .ref (ad 0)), (1, .int x1), (2, .int x2), (3, .ref a13), (4, .ref a19), (5, .ref a26), (6, .ref a33), (7, .ref a40), (8, .int x8), (9, .int x9), (10, .int x10), (11, .int x11), (12, .int x12), (13, .int x13), (14, .int x14), (15, .int x15), (16, .int x16)]) hl [0, 1, 2, 3, 4, 5, 6, 7, 8, 9, 10, 11, 12, 13, 14, 15, 16] rfl
          have hP9 : va_P D vwCl ([(a13, .inl (C 0, 256, .inl ta13)), (a19, .inl (C 0, 256, .inl ta19)), (a26, .inl (C 0, 256, .inl ta26)), (a33, .inl (C 0, 256, .inl ta33)), (a40, .inl (C 0, 256, .inl ta40))] ++ wK C ad d) H := bd_P (lc := [(a13, .inl (C 0, 256, .inl ta13)), (a19, .inl (C 0, 256, .inl ta19)), (a26, .inl (C 0, 256, .inl ta26)), (a33, .inl (C 0, 256, .inl ta33)), (a40, .inl (C 0, 256, .inl ta40))]) hP [0, 1, 2, 3, 4] rfl
          have hD9 : va_D A ([(a13, .inl (C 0, 256, .inl ta13)), (a19, .inl (C 0, 256, .inl ta19)), (a26, .inl (C 0, 256, .inl ta26)), (a33, .inl (C 0, 256, .inl ta33)), (a40, .inl (C 0, 256, .inl ta40))] ++ wK C ad d) := bd_D (lc := [(a13, .inl (C 0, 256, .inl ta13)), (a19, .inl (C 0, 256, .inl ta19)), (a26, .inl (C 0, 256, .inl ta26)), (a33, .inl (C 0, 256, .inl ta33)), (a40, .inl (C 0, 256, .inl ta40))]) hD [0, 1, 2, 3, 4] rfl (by decide)
          exact hk387 x16 H locs ls hl9 hP9 hD9 hS hwp
        · have hwp := hwp.2 c347
          refine lv_aload_n hx hb dL_points_350 rfl (lv_at hl 3 rfl) ?_
          refine lv_iload hx hb dL_points_351 (lv_at hl 17 rfl) ?_
          obtain ⟨hi353, hwp⟩ := hwp
          refine va_iald (D := D) hx hb hK hP 0 0 rfl rfl hi353 dL_points_353 ?_
          refine lv_aload hx hb dL_points_354 (lv_at hl 4 rfl) ?_
          refine lv_iload hx hb dL_points_356 (lv_at hl 17 rfl) ?_
          obtain ⟨hi358, hwp⟩ := hwp
          refine va_iald (D := D) hx hb hK hP 1 0 rfl rfl hi358 dL_points_358 ?_
          refine lv_aload_n hx hb dL_points_359 rfl (lv_at hl 3 rfl) ?_
          refine lv_iload hx hb dL_points_360 (lv_at hl 15 rfl) ?_
          obtain ⟨hi362, hwp⟩ := hwp
          refine va_iald (D := D) hx hb hK hP 0 0 rfl rfl hi362 dL_points_362 ?_
          refine lv_aload hx hb dL_points_363 (lv_at hl 4 rfl) ?_
          refine lv_iload hx hb dL_points_365 (lv_at hl 15 rfl) ?_
          obtain ⟨hi367, hwp⟩ := hwp
          refine va_iald (D := D) hx hb hK hP 1 0 rfl rfl hi367 dL_points_367 ?_
          have hPc := hP.sub (ws' := []) [] rfl
          have hDc := hD.sub (ws' := []) [] (by decide) rfl
          have hFc := va_free (wc := []) hD hS hA [] rfl
          refine va_calli (va_runS (As := [.int (ta13 x17.toNatClampNeg), .int (ta19 x17.toNatClampNeg), .int (ta13 x15.toNatClampNeg), .int (ta19 x15.toNatClampNeg)]) (rest := []) ⟨hx, hb, hml, hown, hts⟩ (met_L_beats l hst D C (ta13 x17.toNatClampNeg) (ta19 x17.toNatClampNeg) (ta13 x15.toNatClampNeg) (ta19 x15.toNatClampNeg) H.size _ hwp) (va_cwS 4 hts gc_L_130 rfl rfl rfl (by decide +kernel) ⟨Nat.le_of_ble_eq_true rfl, Nat.le_of_ble_eq_true rfl⟩) ⟨fun a U g mk q => by obtain ⟨q0, q1, qP, qK, qD, qT⟩ := q; exact ⟨q0, q1, qP, va_K.moved (u := U) (U := U.calling g mk a) (Vm.Alike.refl U.vm) qK, qD, qT.mv (U := U.calling g mk a) (State.WarmedH.refl U)⟩, fun U hU hW => ⟨rfl, by rw [hU], by rw [hU]; exact hPc, va_K.moved hW.alike hK, hDc.weaken (fun _ _ _ _ => trivial), hT.call hS hFc hU hW⟩⟩ rfl rfl hl.1 rfl (lv_room (Nat.le_of_ble_eq_true rfl)) dL_points_368 ⟨Nat.le_of_ble_eq_true rfl, Nat.le_of_ble_eq_true rfl⟩) hS (fun q _ h => hFc q h) hFc (fun r368 u t H1 locs ht hvm hwp hB hz1 hk1 hS => ?_)
          obtain ⟨hP1, -, hD1⟩ := hB
          rw [ht] at hP1
          obtain ⟨hP, hD⟩ := bd_joinL (lr := [(a13, .inl (C 0, 256, .inl ta13)), (a19, .inl (C 0, 256, .inl ta19)), (a26, .inl (C 0, 256, .inl ta26)), (a33, .inl (C 0, 256, .inl ta33)), (a40, .inl (C 0, 256, .inl ta40))]) (l1 := []) hP hD [] [0, 1, 2, 3, 4] rfl rfl (by decide) (by decide) hk1 hFc hP1 hD1
          generalize H1 = H at hP hS ⊢
          have hP : va_P D vwCl ([(a13, .inl (C 0, 256, .inl ta13)), (a19, .inl (C 0, 256, .inl ta19)), (a26, .inl (C 0, 256, .inl ta26)), (a33, .inl (C 0, 256, .inl ta33)), (a40, .inl (C 0, 256, .inl ta40))] ++ wK C ad d) H := hP
          have hD : va_D A ([(a13, .inl (C 0, 256, .inl ta13)), (a19, .inl (C 0, 256, .inl ta19)), (a26, .inl (C 0, 256, .inl ta26)), (a33, .inl (C 0, 256, .inl ta33)), (a40, .inl (C 0, 256, .inl ta40))] ++ wK C ad d) := hD
          refine lv_if_ne (tgt := 378) hx hb dL_points_371 (by decide) (fun c371 => ?_) (fun c371 => ?_)
          · have hwp := hwp.1 c371
            refine lv_iconst (v := 0) hx hb dL_points_378 (by decide) ?_
            refine lv_istore (lv' := [(16, .int (0 : Int32)), (0, .ref (ad 0)), (1, .int x1), (2, .int x2), (3, .ref a13), (4, .ref a19), (5, .ref a26), (6, .ref a33), (7, .ref a40), (8, .int x8), (9, .int x9), (10, .int x10), (11, .int x11), (12, .int x12), (13, .int x13), (14, .int x14), (15, .int x15), (17, .int x17)]) hx hb dL_points_379 hl (by decide) rfl (fun ls hl => ?_)
            refine lv_iinc (v := x17 + 1) (lv' := [(17, .int (x17 + 1)), (16, .int (0 : Int32)), (0, .ref (ad 0)), (1, .int x1), (2, .int x2), (3, .ref a13), (4, .ref a19), (5, .ref a26), (6, .ref a33), (7, .ref a40), (8, .int x8), (9, .int x9), (10, .int x10), (11, .int x11), (12, .int x12), (13, .int x13), (14, .int x14), (15, .int x15)]) hx hb dL_points_381 hl (k := 17) rfl rfl (by decide) rfl (fun ls hl => ?_)
            refine lv_goto (tgt := 338) hx hb dL_points_384 (by decide) ?_
            have hl9 := lv_sub (l' := [(0, .ref (ad 0)), (1, .int x1), (2, .int x2), (3, .ref a13), (4, .ref a19), (5, .ref a26), (6, .ref a33), (7, .ref a40), (8, .int x8), (9, .int x9), (10, .int x10), (11, .int x11), (12, .int x12), (13, .int x13), (14, .int x14), (15, .int x15), (16, .int (0 : Int32)), (17, .int (x17 + 1))]) hl [2, 3, 4, 5, 6, 7, 8, 9, 10, 11, 12, 13, 14, 15, 16, 17, 1, 0] rfl
            have hP9 : va_P D vwCl ([(a13, .inl (C 0, 256, .inl ta13)), (a19, .inl (C 0, 256, .inl ta19)), (a26, .inl (C 0, 256, .inl ta26)), (a33, .inl (C 0, 256, .inl ta33)), (a40, .inl (C 0, 256, .inl ta40))] ++ wK C ad d) H := bd_P (lc := [(a13, .inl (C 0, 256, .inl ta13)), (a19, .inl (C 0, 256, .inl ta19)), (a26, .inl (C 0, 256, .inl ta26)), (a33, .inl (C 0, 256, .inl ta33)), (a40, .inl (C 0, 256, .inl ta40))]) hP [0, 1, 2, 3, 4] rfl
            have hD9 : va_D A ([(a13, .inl (C 0, 256, .inl ta13)), (a19, .inl (C 0, 256, .inl ta19)), (a26, .inl (C 0, 256, .inl ta26)), (a33, .inl (C 0, 256, .inl ta33)), (a40, .inl (C 0, 256, .inl ta40))] ++ wK C ad d) := bd_D (lc := [(a13, .inl (C 0, 256, .inl ta13)), (a19, .inl (C 0, 256, .inl ta19)), (a26, .inl (C 0, 256, .inl ta26)), (a33, .inl (C 0, 256, .inl ta33)), (a40, .inl (C 0, 256, .inl ta40))]) hD [0, 1, 2, 3, 4] rfl (by decide)
            exact ih (0 : Int32) (x17 + 1) H locs ls hl9 hP9 hD9 hS hwp
          · have hwp := hwp.2 c371
            refine lv_iconst (v := 1) hx hb dL_points_374 (by decide) ?_
            refine lv_goto (tgt := 379) hx hb dL_points_375 (by decide) ?_
            refine lv_istore (lv' := [(16, .int (1 : Int32)), (0, .ref (ad 0)), (1, .int x1), (2, .int x2), (3, .ref a13), (4, .ref a19), (5, .ref a26), (6, .ref a33), (7, .ref a40), (8, .int x8), (9, .int x9), (10, .int x10), (11, .int x11), (12, .int x12), (13, .int x13), (14, .int x14), (15, .int x15), (17, .int x17)]) hx hb dL_points_379 hl (by decide) rfl (fun ls hl => ?_)
            refine lv_iinc (v := x17 + 1) (lv' := [(17, .int (x17 + 1)), (16, .int (1 : Int32)), (0, .ref (ad 0)), (1, .int x1), (2, .int x2), (3, .ref a13), (4, .ref a19), (5, .ref a26), (6, .ref a33), (7, .ref a40), (8, .int x8), (9, .int x9), (10, .int x10), (11, .int x11), (12, .int x12), (13, .int x13), (14, .int x14), (15, .int x15)]) hx hb dL_points_381 hl (k := 17) rfl rfl (by decide) rfl (fun ls hl => ?_)
            refine lv_goto (tgt := 338) hx hb dL_points_384 (by decide) ?_
            have hl9 := lv_sub (l' := [(0, .ref (ad 0)), (1, .int x1), (2, .int x2), (3, .ref a13), (4, .ref a19), (5, .ref a26), (6, .ref a33), (7, .ref a40), (8, .int x8), (9, .int x9), (10, .int x10), (11, .int x11), (12, .int x12), (13, .int x13), (14, .int x14), (15, .int x15), (16, .int (1 : Int32)), (17, .int (x17 + 1))]) hl [2, 3, 4, 5, 6, 7, 8, 9, 10, 11, 12, 13, 14, 15, 16, 17, 1, 0] rfl
            have hP9 : va_P D vwCl ([(a13, .inl (C 0, 256, .inl ta13)), (a19, .inl (C 0, 256, .inl ta19)), (a26, .inl (C 0, 256, .inl ta26)), (a33, .inl (C 0, 256, .inl ta33)), (a40, .inl (C 0, 256, .inl ta40))] ++ wK C ad d) H := bd_P (lc := [(a13, .inl (C 0, 256, .inl ta13)), (a19, .inl (C 0, 256, .inl ta19)), (a26, .inl (C 0, 256, .inl ta26)), (a33, .inl (C 0, 256, .inl ta33)), (a40, .inl (C 0, 256, .inl ta40))]) hP [0, 1, 2, 3, 4] rfl
            have hD9 : va_D A ([(a13, .inl (C 0, 256, .inl ta13)), (a19, .inl (C 0, 256, .inl ta19)), (a26, .inl (C 0, 256, .inl ta26)), (a33, .inl (C 0, 256, .inl ta33)), (a40, .inl (C 0, 256, .inl ta40))] ++ wK C ad d) := bd_D (lc := [(a13, .inl (C 0, 256, .inl ta13)), (a19, .inl (C 0, 256, .inl ta19)), (a26, .inl (C 0, 256, .inl ta26)), (a33, .inl (C 0, 256, .inl ta33)), (a40, .inl (C 0, 256, .inl ta40))]) hD [0, 1, 2, 3, 4] rfl (by decide)
            exact ih (1 : Int32) (x17 + 1) H locs ls hl9 hP9 hD9 hS hwp
  have HL313 : ∀ (a13 : Nat) (a19 : Nat) (a26 : Nat) (a33 : Nat) (a40 : Nat) (x1 : Int32) (x2 : Int32) (x8 : Int32) (x9 : Int32) (x14 : Int32) (ta13 : Nat → Int32) (ta19 : Nat → Int32) (ta26 : Nat → Int32) (ta33 : Nat → Int32) (ta40 : Nat → Int32) (k527 : Int32 → Int32 → Int32 → Int32 → DT → Prop) (hk527 : ∀ (x10 : Int32) (x11 : Int32) (x12 : Int32) (x13 : Int32) (d : DT) (H : Heap) (locs : List Loc) (ls : Array Slot), lv_has ls 18 [(0, .ref (ad 0)), (1, .int x1), (2, .int x2), (3, .ref a13), (4, .ref a19), (5, .ref a26), (6, .ref a33), (7, .ref a40), (8, .int x8), (9, .int x9), (10, .int x10), (11, .int x11), (12, .int x12), (13, .int x13), (14, .int x14)] → va_P D vwCl ([(a13, .inl (C 0, 256, .inl ta13)), (a19, .inl (C 0, 256, .inl ta19)), (a26, .inl (C 0, 256, .inl ta26)), (a33, .inl (C 0, 256, .inl ta33)), (a40, .inl (C 0, 256, .inl ta40))] ++ wK C ad d) H → va_D A ([(a13, .inl (C 0, 256, .inl ta13)), (a19, .inl (C 0, 256, .inl ta19)), (a26, .inl (C 0, 256, .inl ta26)), (a33, .inl (C 0, 256, .inl ta33)), (a40, .inl (C 0, 256, .inl ta40))] ++ wK C ad d) → va_S A s.heap H locs → k527 x10 x11 x12 x13 d → W p l e (headSpec ws_L_points rm_L_points).room s m ([.ref (ad 0)] : List Value).toArray below meth c H locs 5 1280 (MQ below (q_L_points D C ad Q A) ([.ref (ad 0)] : List Value).toArray s 8 2048 A) (F0 m 527 ls [])) (n313 : Nat) (x10 : Int32) (x11 : Int32) (x12 : Int32) (x13 : Int32) (x15 : Int32) (d : DT) (H : Heap) (locs : List Loc) (ls : Array Slot), lv_has ls 18 [(0, .ref (ad 0)), (1, .int x1), (2, .int x2), (3, .ref a13), (4, .ref a19), (5, .ref a26), (6, .ref a33), (7, .ref a40), (8, .int x8), (9, .int x9), (10, .int x10), (11, .int x11), (12, .int x12), (13, .int x13), (14, .int x14), (15, .int x15)] → va_P D vwCl ([(a13, .inl (C 0, 256, .inl ta13)), (a19, .inl (C 0, 256, .inl ta19)), (a26, .inl (C 0, 256, .inl ta26)), (a33, .inl (C 0, 256, .inl ta33)), (a40, .inl (C 0, 256, .inl ta40))] ++ wK C ad d) H → va_D A ([(a13, .inl (C 0, 256, .inl ta13)), (a19, .inl (C 0, 256, .inl ta19)), (a26, .inl (C 0, 256, .inl ta26)), (a33, .inl (C 0, 256, .inl ta33)), (a40, .inl (C 0, 256, .inl ta40))] ++ wK C ad d) → va_S A s.heap H locs → wp_L_points_L313 x1 x2 x8 x9 x14 ta13 ta19 ta26 ta33 ta40 k527 Q n313 x10 x11 x12 x13 x15 d → W p l e (headSpec ws_L_points rm_L_points).room s m ([.ref (ad 0)] : List Value).toArray below meth c H locs 5 1280 (MQ below (q_L_points D C ad Q A) ([.ref (ad 0)] : List Value).toArray s 8 2048 A) (F0 m 313 ls []) := by
    intro a13 a19 a26 a33 a40 x1 x2 x8 x9 x14 ta13 ta19 ta26 ta33 ta40 k527 hk527 n313
    induction n313 with
    | zero =>
      intro x10 x11 x12 x13 x15 d H locs ls hl hP hD hS hwp
      exact False.elim hwp
    | succ n313 ih =>
      intro x10 x11 x12 x13 x15 d H locs ls hl hP hD hS hwp
      unfold wp_L_points_L313 at hwp
      refine lv_iload hx hb dL_points_313 (lv_at hl 15 rfl) ?_
      refine lv_iload hx hb dL_points_315 (lv_at hl 8 rfl) ?_
      refine lv_icmp_ge (tgt := 527) hx hb dL_points_317 (by decide) (fun c317 => ?_) (fun c317 => ?_)
      · have hwp := hwp.1 c317
        have hl9 := lv_sub (l' := [(0, .ref (ad 0)), (1, .int x1), (2, .int x2), (3, .ref a13), (4, .ref a19), (5, .ref a26), (6, .ref a33), (7, .ref a40), (8, .int x8), (9, .int x9), (10, .int x10), (11, .int x11), (12, .int x12), (13, .int x13), (14, .int x14)]) hl [0, 1, 2, 3, 4, 5, 6, 7, 8, 9, 10, 11, 12, 13, 14] rfl
        have hP9 : va_P D vwCl ([(a13, .inl (C 0, 256, .inl ta13)), (a19, .inl (C 0, 256, .inl ta19)), (a26, .inl (C 0, 256, .inl ta26)), (a33, .inl (C 0, 256, .inl ta33)), (a40, .inl (C 0, 256, .inl ta40))] ++ wK C ad d) H := bd_P (lc := [(a13, .inl (C 0, 256, .inl ta13)), (a19, .inl (C 0, 256, .inl ta19)), (a26, .inl (C 0, 256, .inl ta26)), (a33, .inl (C 0, 256, .inl ta33)), (a40, .inl (C 0, 256, .inl ta40))]) hP [0, 1, 2, 3, 4] rfl
        have hD9 : va_D A ([(a13, .inl (C 0, 256, .inl ta13)), (a19, .inl (C 0, 256, .inl ta19)), (a26, .inl (C 0, 256, .inl ta26)), (a33, .inl (C 0, 256, .inl ta33)), (a40, .inl (C 0, 256, .inl ta40))] ++ wK C ad d) := bd_D (lc := [(a13, .inl (C 0, 256, .inl ta13)), (a19, .inl (C 0, 256, .inl ta19)), (a26, .inl (C 0, 256, .inl ta26)), (a33, .inl (C 0, 256, .inl ta33)), (a40, .inl (C 0, 256, .inl ta40))]) hD [0, 1, 2, 3, 4] rfl (by decide)
        exact hk527 x10 x11 x12 x13 d H locs ls hl9 hP9 hD9 hS hwp
      · have hwp := hwp.2 c317
        refine lv_aload_n hx hb dL_points_320 rfl (lv_at hl 3 rfl) ?_
        refine lv_iload hx hb dL_points_321 (lv_at hl 15 rfl) ?_
        obtain ⟨hi323, hwp⟩ := hwp
        refine va_iald (D := D) hx hb hK hP 0 0 rfl rfl hi323 dL_points_323 ?_
        refine lv_iload hx hb dL_points_324 (lv_at hl 14 rfl) ?_
        refine lv_icmp_eq (tgt := 332) hx hb dL_points_326 (by decide) (fun c326 => ?_) (fun c326 => ?_)
        · have hwp := hwp.1 c326
          refine lv_iconst (v := 1) hx hb dL_points_332 (by decide) ?_
          refine lv_istore (lv' := [(16, .int (1 : Int32)), (0, .ref (ad 0)), (1, .int x1), (2, .int x2), (3, .ref a13), (4, .ref a19), (5, .ref a26), (6, .ref a33), (7, .ref a40), (8, .int x8), (9, .int x9), (10, .int x10), (11, .int x11), (12, .int x12), (13, .int x13), (14, .int x14), (15, .int x15)]) hx hb dL_points_333 hl (by decide) rfl (fun ls hl => ?_)
          refine lv_iconst (v := 0) hx hb dL_points_335 (by decide) ?_
          refine lv_istore (lv' := [(17, .int (0 : Int32)), (16, .int (1 : Int32)), (0, .ref (ad 0)), (1, .int x1), (2, .int x2), (3, .ref a13), (4, .ref a19), (5, .ref a26), (6, .ref a33), (7, .ref a40), (8, .int x8), (9, .int x9), (10, .int x10), (11, .int x11), (12, .int x12), (13, .int x13), (14, .int x14), (15, .int x15)]) hx hb dL_points_336 hl (by decide) rfl (fun ls hl => ?_)
          have hl9 := lv_sub (l' := [(0, .ref (ad 0)), (1, .int x1), (2, .int x2), (3, .ref a13), (4, .ref a19), (5, .ref a26), (6, .ref a33), (7, .ref a40), (8, .int x8), (9, .int x9), (10, .int x10), (11, .int x11), (12, .int x12), (13, .int x13), (14, .int x14), (15, .int x15), (16, .int (1 : Int32)), (17, .int (0 : Int32))]) hl [2, 3, 4, 5, 6, 7, 8, 9, 10, 11, 12, 13, 14, 15, 16, 17, 1, 0] rfl
          have hP9 : va_P D vwCl ([(a13, .inl (C 0, 256, .inl ta13)), (a19, .inl (C 0, 256, .inl ta19)), (a26, .inl (C 0, 256, .inl ta26)), (a33, .inl (C 0, 256, .inl ta33)), (a40, .inl (C 0, 256, .inl ta40))] ++ wK C ad d) H := bd_P (lc := [(a13, .inl (C 0, 256, .inl ta13)), (a19, .inl (C 0, 256, .inl ta19)), (a26, .inl (C 0, 256, .inl ta26)), (a33, .inl (C 0, 256, .inl ta33)), (a40, .inl (C 0, 256, .inl ta40))]) hP [0, 1, 2, 3, 4] rfl
          have hD9 : va_D A ([(a13, .inl (C 0, 256, .inl ta13)), (a19, .inl (C 0, 256, .inl ta19)), (a26, .inl (C 0, 256, .inl ta26)), (a33, .inl (C 0, 256, .inl ta33)), (a40, .inl (C 0, 256, .inl ta40))] ++ wK C ad d) := bd_D (lc := [(a13, .inl (C 0, 256, .inl ta13)), (a19, .inl (C 0, 256, .inl ta19)), (a26, .inl (C 0, 256, .inl ta26)), (a33, .inl (C 0, 256, .inl ta33)), (a40, .inl (C 0, 256, .inl ta40))]) hD [0, 1, 2, 3, 4] rfl (by decide)
          obtain ⟨nn9, hwp⟩ := hwp
          refine HL338 a13 a19 a26 a33 a40 x1 x2 x8 x9 x10 x11 x12 x13 x14 x15 d ta13 ta19 ta26 ta33 ta40 _ (fun x16 H locs ls hl hP hD hS hwp => ?_) nn9 (1 : Int32) (0 : Int32) H locs ls hl9 hP9 hD9 hS hwp
          refine lv_iload hx hb dL_points_387 (lv_at hl 16 rfl) ?_
          refine lv_if_ne (tgt := 395) hx hb dL_points_389 (by decide) (fun c389 => ?_) (fun c389 => ?_)
          · have hwp := hwp.1 c389
            refine lv_iload hx hb dL_points_395 (lv_at hl 11 rfl) ?_
            refine lv_iload hx hb dL_points_397 (lv_at hl 9 rfl) ?_
            refine lv_icmp_ge (tgt := 493) hx hb dL_points_399 (by decide) (fun c399 => ?_) (fun c399 => ?_)
            · have hwp := hwp.1 c399
              refine lv_iconst (v := 0) hx hb dL_points_493 (by decide) ?_
              have hP9 : va_P D vwCl ([] ++ wK C ad d) H := bd_P (lc := []) hP [] rfl
              have hD9 : va_D A ([] ++ wK C ad d) := bd_D (lc := []) hD [] rfl (by decide)
              refine W.widen (k := 8) (n := 2048) (Nat.le_of_ble_eq_true rfl) (Nat.le_of_ble_eq_true rfl) ?_
              exact W.zret (v := (0 : Int32)) (ty := .boolean) hx hb hr rfl (fun t ht hW => ⟨⟨(0 : Int32), (d), rfl, hwp, by rw [ht]; exact hP9, va_K.moved hW.alike hK, hD9⟩, hS.F ht⟩) hS.2.2 dL_points_494
            · have hwp := hwp.2 c399
              refine lv_aload_n hx hb dL_points_402 rfl (lv_at hl 0 rfl) ?_
              refine lv_iload hx hb dL_points_403 (lv_at hl 11 rfl) ?_
              refine lv_iconst (v := 0) hx hb dL_points_405 (by decide) ?_
              have hPc : va_P D vwCl ([] ++ wK C ad d) H := bd_P (lc := []) hP [] rfl
              have hDc : va_D A ([] ++ wK C ad d) := bd_D (lc := []) hD [] rfl (by decide)
              have hFc : ∀ q, va_A ([] ++ wK C ad d) H.size q → A q := bd_free (lc := []) hD hS hA [] rfl
              refine va_calli (va_runV (As := [.int x11, .int (0 : Int32)]) (rest := []) ⟨hx, hb, hml, hown, hts⟩ (mk_X10_point l hst D C ad x11 (0 : Int32) d H.size _ hwp) (cwV 2 hts gc_L_134 rfl rfl rfl (by decide +kernel) ⟨Nat.le_of_ble_eq_true rfl, Nat.le_of_ble_eq_true rfl⟩) ⟨fun a U g mk q => by obtain ⟨q0, q1, qP, qK, qD, qT⟩ := q; exact ⟨q0, q1, qP, va_K.moved (u := U) (U := U.calling g mk a) (Vm.Alike.refl U.vm) qK, qD, qT.mv (U := U.calling g mk a) (State.WarmedH.refl U)⟩, va_recv hK hPc (ci := 10) (q0 := 0) rfl rfl, fun U hU hW => ⟨rfl, by rw [hU], by rw [hU]; exact hPc, va_K.moved hW.alike hK, hDc.weaken (fun _ _ _ _ => trivial), hT.call hS hFc hU hW⟩⟩ rfl rfl hl.1 rfl (lv_room (Nat.le_of_ble_eq_true rfl)) dL_points_406 ⟨Nat.le_of_ble_eq_true rfl, Nat.le_of_ble_eq_true rfl⟩) hS (fun q _ h => hFc q h) hFc (fun r406 u t H1 locs ht hvm hwp hB hz1 hk1 hS => ?_)
              obtain ⟨u406_16, rfl⟩ : ∃ z, z = u := ⟨_, rfl⟩
              obtain ⟨hP1, -, hD1⟩ := hB
              rw [ht] at hP1
              obtain ⟨hP, hD⟩ := bd_join (lr := [(a13, .inl (C 0, 256, .inl ta13)), (a19, .inl (C 0, 256, .inl ta19)), (a26, .inl (C 0, 256, .inl ta26)), (a33, .inl (C 0, 256, .inl ta33)), (a40, .inl (C 0, 256, .inl ta40))]) (l1 := []) (b1 := wK C ad u406_16) hP hD [] [0, 1, 2, 3, 4] rfl rfl (by decide) (by decide) hk1 hFc hP1 hD1
              generalize H1 = H at hP hS ⊢
              have hP : va_P D vwCl ([(a13, .inl (C 0, 256, .inl ta13)), (a19, .inl (C 0, 256, .inl ta19)), (a26, .inl (C 0, 256, .inl ta26)), (a33, .inl (C 0, 256, .inl ta33)), (a40, .inl (C 0, 256, .inl ta40))] ++ wK C ad u406_16) H := hP
              have hD : va_D A ([(a13, .inl (C 0, 256, .inl ta13)), (a19, .inl (C 0, 256, .inl ta19)), (a26, .inl (C 0, 256, .inl ta26)), (a33, .inl (C 0, 256, .inl ta33)), (a40, .inl (C 0, 256, .inl ta40))] ++ wK C ad u406_16) := hD
              refine lv_iload hx hb dL_points_409 (lv_at hl 14 rfl) ?_
              refine lv_icmp_ne (tgt := 493) hx hb dL_points_411 (by decide) (fun c411 => ?_) (fun c411 => ?_)
              · have hwp := hwp.1 c411
                refine lv_iconst (v := 0) hx hb dL_points_493 (by decide) ?_
                have hP9 : va_P D vwCl ([] ++ wK C ad u406_16) H := bd_P (lc := []) hP [] rfl
                have hD9 : va_D A ([] ++ wK C ad u406_16) := bd_D (lc := []) hD [] rfl (by decide)
                refine W.widen (k := 8) (n := 2048) (Nat.le_of_ble_eq_true rfl) (Nat.le_of_ble_eq_true rfl) ?_
                exact W.zret (v := (0 : Int32)) (ty := .boolean) hx hb hr rfl (fun t ht hW => ⟨⟨(0 : Int32), (u406_16), rfl, hwp, by rw [ht]; exact hP9, va_K.moved hW.alike hK, hD9⟩, hS.F ht⟩) hS.2.2 dL_points_494
              · have hwp := hwp.2 c411
                refine lv_aload_n hx hb dL_points_414 rfl (lv_at hl 0 rfl) ?_
                refine lv_iload hx hb dL_points_415 (lv_at hl 11 rfl) ?_
                refine lv_iconst (v := 1) hx hb dL_points_417 (by decide) ?_
                have hPc : va_P D vwCl ([] ++ wK C ad u406_16) H := bd_P (lc := []) hP [] rfl
                have hDc : va_D A ([] ++ wK C ad u406_16) := bd_D (lc := []) hD [] rfl (by decide)
                have hFc : ∀ q, va_A ([] ++ wK C ad u406_16) H.size q → A q := bd_free (lc := []) hD hS hA [] rfl
                refine va_calli (va_runV (As := [.int x11, .int (1 : Int32)]) (rest := []) ⟨hx, hb, hml, hown, hts⟩ (mk_X10_point l hst D C ad x11 (1 : Int32) u406_16 H.size _ hwp) (cwV 2 hts gc_L_134 rfl rfl rfl (by decide +kernel) ⟨Nat.le_of_ble_eq_true rfl, Nat.le_of_ble_eq_true rfl⟩) ⟨fun a U g mk q => by obtain ⟨q0, q1, qP, qK, qD, qT⟩ := q; exact ⟨q0, q1, qP, va_K.moved (u := U) (U := U.calling g mk a) (Vm.Alike.refl U.vm) qK, qD, qT.mv (U := U.calling g mk a) (State.WarmedH.refl U)⟩, va_recv hK hPc (ci := 10) (q0 := 0) rfl rfl, fun U hU hW => ⟨rfl, by rw [hU], by rw [hU]; exact hPc, va_K.moved hW.alike hK, hDc.weaken (fun _ _ _ _ => trivial), hT.call hS hFc hU hW⟩⟩ rfl rfl hl.1 rfl (lv_room (Nat.le_of_ble_eq_true rfl)) dL_points_418 ⟨Nat.le_of_ble_eq_true rfl, Nat.le_of_ble_eq_true rfl⟩) hS (fun q _ h => hFc q h) hFc (fun r418 u t H1 locs ht hvm hwp hB hz1 hk1 hS => ?_)
                obtain ⟨u418_17, rfl⟩ : ∃ z, z = u := ⟨_, rfl⟩
                obtain ⟨hP1, -, hD1⟩ := hB
                rw [ht] at hP1
                obtain ⟨hP, hD⟩ := bd_join (lr := [(a13, .inl (C 0, 256, .inl ta13)), (a19, .inl (C 0, 256, .inl ta19)), (a26, .inl (C 0, 256, .inl ta26)), (a33, .inl (C 0, 256, .inl ta33)), (a40, .inl (C 0, 256, .inl ta40))]) (l1 := []) (b1 := wK C ad u418_17) hP hD [] [0, 1, 2, 3, 4] rfl rfl (by decide) (by decide) hk1 hFc hP1 hD1
                generalize H1 = H at hP hS ⊢
                have hP : va_P D vwCl ([(a13, .inl (C 0, 256, .inl ta13)), (a19, .inl (C 0, 256, .inl ta19)), (a26, .inl (C 0, 256, .inl ta26)), (a33, .inl (C 0, 256, .inl ta33)), (a40, .inl (C 0, 256, .inl ta40))] ++ wK C ad u418_17) H := hP
                have hD : va_D A ([(a13, .inl (C 0, 256, .inl ta13)), (a19, .inl (C 0, 256, .inl ta19)), (a26, .inl (C 0, 256, .inl ta26)), (a33, .inl (C 0, 256, .inl ta33)), (a40, .inl (C 0, 256, .inl ta40))] ++ wK C ad u418_17) := hD
                refine lv_aload hx hb dL_points_421 (lv_at hl 4 rfl) ?_
                refine lv_iload hx hb dL_points_423 (lv_at hl 15 rfl) ?_
                obtain ⟨hi425, hwp⟩ := hwp
                refine va_iald (D := D) hx hb hK hP 1 0 rfl rfl hi425 dL_points_425 ?_
                refine lv_icmp_ne (tgt := 493) hx hb dL_points_426 (by decide) (fun c426 => ?_) (fun c426 => ?_)
                · have hwp := hwp.1 c426
                  refine lv_iconst (v := 0) hx hb dL_points_493 (by decide) ?_
                  have hP9 : va_P D vwCl ([] ++ wK C ad u418_17) H := bd_P (lc := []) hP [] rfl
                  have hD9 : va_D A ([] ++ wK C ad u418_17) := bd_D (lc := []) hD [] rfl (by decide)
                  refine W.widen (k := 8) (n := 2048) (Nat.le_of_ble_eq_true rfl) (Nat.le_of_ble_eq_true rfl) ?_
                  exact W.zret (v := (0 : Int32)) (ty := .boolean) hx hb hr rfl (fun t ht hW => ⟨⟨(0 : Int32), (u418_17), rfl, hwp, by rw [ht]; exact hP9, va_K.moved hW.alike hK, hD9⟩, hS.F ht⟩) hS.2.2 dL_points_494
                · have hwp := hwp.2 c426
                  refine lv_aload_n hx hb dL_points_429 rfl (lv_at hl 0 rfl) ?_
                  refine lv_iload hx hb dL_points_430 (lv_at hl 11 rfl) ?_
                  refine lv_iconst (v := 2) hx hb dL_points_432 (by decide) ?_
                  have hPc : va_P D vwCl ([] ++ wK C ad u418_17) H := bd_P (lc := []) hP [] rfl
                  have hDc : va_D A ([] ++ wK C ad u418_17) := bd_D (lc := []) hD [] rfl (by decide)
                  have hFc : ∀ q, va_A ([] ++ wK C ad u418_17) H.size q → A q := bd_free (lc := []) hD hS hA [] rfl
                  refine va_calli (va_runV (As := [.int x11, .int (2 : Int32)]) (rest := []) ⟨hx, hb, hml, hown, hts⟩ (mk_X10_point l hst D C ad x11 (2 : Int32) u418_17 H.size _ hwp) (cwV 2 hts gc_L_134 rfl rfl rfl (by decide +kernel) ⟨Nat.le_of_ble_eq_true rfl, Nat.le_of_ble_eq_true rfl⟩) ⟨fun a U g mk q => by obtain ⟨q0, q1, qP, qK, qD, qT⟩ := q; exact ⟨q0, q1, qP, va_K.moved (u := U) (U := U.calling g mk a) (Vm.Alike.refl U.vm) qK, qD, qT.mv (U := U.calling g mk a) (State.WarmedH.refl U)⟩, va_recv hK hPc (ci := 10) (q0 := 0) rfl rfl, fun U hU hW => ⟨rfl, by rw [hU], by rw [hU]; exact hPc, va_K.moved hW.alike hK, hDc.weaken (fun _ _ _ _ => trivial), hT.call hS hFc hU hW⟩⟩ rfl rfl hl.1 rfl (lv_room (Nat.le_of_ble_eq_true rfl)) dL_points_433 ⟨Nat.le_of_ble_eq_true rfl, Nat.le_of_ble_eq_true rfl⟩) hS (fun q _ h => hFc q h) hFc (fun r433 u t H1 locs ht hvm hwp hB hz1 hk1 hS => ?_)
                  obtain ⟨u433_18, rfl⟩ : ∃ z, z = u := ⟨_, rfl⟩
                  obtain ⟨hP1, -, hD1⟩ := hB
                  rw [ht] at hP1
                  obtain ⟨hP, hD⟩ := bd_join (lr := [(a13, .inl (C 0, 256, .inl ta13)), (a19, .inl (C 0, 256, .inl ta19)), (a26, .inl (C 0, 256, .inl ta26)), (a33, .inl (C 0, 256, .inl ta33)), (a40, .inl (C 0, 256, .inl ta40))]) (l1 := []) (b1 := wK C ad u433_18) hP hD [] [0, 1, 2, 3, 4] rfl rfl (by decide) (by decide) hk1 hFc hP1 hD1
                  generalize H1 = H at hP hS ⊢
                  have hP : va_P D vwCl ([(a13, .inl (C 0, 256, .inl ta13)), (a19, .inl (C 0, 256, .inl ta19)), (a26, .inl (C 0, 256, .inl ta26)), (a33, .inl (C 0, 256, .inl ta33)), (a40, .inl (C 0, 256, .inl ta40))] ++ wK C ad u433_18) H := hP
                  have hD : va_D A ([(a13, .inl (C 0, 256, .inl ta13)), (a19, .inl (C 0, 256, .inl ta19)), (a26, .inl (C 0, 256, .inl ta26)), (a33, .inl (C 0, 256, .inl ta33)), (a40, .inl (C 0, 256, .inl ta40))] ++ wK C ad u433_18) := hD
                  refine lv_aload hx hb dL_points_436 (lv_at hl 5 rfl) ?_
                  refine lv_iload hx hb dL_points_438 (lv_at hl 15 rfl) ?_
                  obtain ⟨hi440, hwp⟩ := hwp
                  refine va_iald (D := D) hx hb hK hP 2 0 rfl rfl hi440 dL_points_440 ?_
                  refine lv_icmp_ne (tgt := 493) hx hb dL_points_441 (by decide) (fun c441 => ?_) (fun c441 => ?_)
                  · have hwp := hwp.1 c441
                    refine lv_iconst (v := 0) hx hb dL_points_493 (by decide) ?_
                    have hP9 : va_P D vwCl ([] ++ wK C ad u433_18) H := bd_P (lc := []) hP [] rfl
                    have hD9 : va_D A ([] ++ wK C ad u433_18) := bd_D (lc := []) hD [] rfl (by decide)
                    refine W.widen (k := 8) (n := 2048) (Nat.le_of_ble_eq_true rfl) (Nat.le_of_ble_eq_true rfl) ?_
                    exact W.zret (v := (0 : Int32)) (ty := .boolean) hx hb hr rfl (fun t ht hW => ⟨⟨(0 : Int32), (u433_18), rfl, hwp, by rw [ht]; exact hP9, va_K.moved hW.alike hK, hD9⟩, hS.F ht⟩) hS.2.2 dL_points_494
                  · have hwp := hwp.2 c441
                    refine lv_aload_n hx hb dL_points_444 rfl (lv_at hl 0 rfl) ?_
                    refine lv_iload hx hb dL_points_445 (lv_at hl 11 rfl) ?_
                    refine lv_iconst (v := 3) hx hb dL_points_447 (by decide) ?_
                    have hPc : va_P D vwCl ([] ++ wK C ad u433_18) H := bd_P (lc := []) hP [] rfl
                    have hDc : va_D A ([] ++ wK C ad u433_18) := bd_D (lc := []) hD [] rfl (by decide)
                    have hFc : ∀ q, va_A ([] ++ wK C ad u433_18) H.size q → A q := bd_free (lc := []) hD hS hA [] rfl
                    refine va_calli (va_runV (As := [.int x11, .int (3 : Int32)]) (rest := []) ⟨hx, hb, hml, hown, hts⟩ (mk_X10_point l hst D C ad x11 (3 : Int32) u433_18 H.size _ hwp) (cwV 2 hts gc_L_134 rfl rfl rfl (by decide +kernel) ⟨Nat.le_of_ble_eq_true rfl, Nat.le_of_ble_eq_true rfl⟩) ⟨fun a U g mk q => by obtain ⟨q0, q1, qP, qK, qD, qT⟩ := q; exact ⟨q0, q1, qP, va_K.moved (u := U) (U := U.calling g mk a) (Vm.Alike.refl U.vm) qK, qD, qT.mv (U := U.calling g mk a) (State.WarmedH.refl U)⟩, va_recv hK hPc (ci := 10) (q0 := 0) rfl rfl, fun U hU hW => ⟨rfl, by rw [hU], by rw [hU]; exact hPc, va_K.moved hW.alike hK, hDc.weaken (fun _ _ _ _ => trivial), hT.call hS hFc hU hW⟩⟩ rfl rfl hl.1 rfl (lv_room (Nat.le_of_ble_eq_true rfl)) dL_points_448 ⟨Nat.le_of_ble_eq_true rfl, Nat.le_of_ble_eq_true rfl⟩) hS (fun q _ h => hFc q h) hFc (fun r448 u t H1 locs ht hvm hwp hB hz1 hk1 hS => ?_)
                    obtain ⟨u448_19, rfl⟩ : ∃ z, z = u := ⟨_, rfl⟩
                    obtain ⟨hP1, -, hD1⟩ := hB
                    rw [ht] at hP1
                    obtain ⟨hP, hD⟩ := bd_join (lr := [(a13, .inl (C 0, 256, .inl ta13)), (a19, .inl (C 0, 256, .inl ta19)), (a26, .inl (C 0, 256, .inl ta26)), (a33, .inl (C 0, 256, .inl ta33)), (a40, .inl (C 0, 256, .inl ta40))]) (l1 := []) (b1 := wK C ad u448_19) hP hD [] [0, 1, 2, 3, 4] rfl rfl (by decide) (by decide) hk1 hFc hP1 hD1
                    generalize H1 = H at hP hS ⊢
                    have hP : va_P D vwCl ([(a13, .inl (C 0, 256, .inl ta13)), (a19, .inl (C 0, 256, .inl ta19)), (a26, .inl (C 0, 256, .inl ta26)), (a33, .inl (C 0, 256, .inl ta33)), (a40, .inl (C 0, 256, .inl ta40))] ++ wK C ad u448_19) H := hP
                    have hD : va_D A ([(a13, .inl (C 0, 256, .inl ta13)), (a19, .inl (C 0, 256, .inl ta19)), (a26, .inl (C 0, 256, .inl ta26)), (a33, .inl (C 0, 256, .inl ta33)), (a40, .inl (C 0, 256, .inl ta40))] ++ wK C ad u448_19) := hD
                    refine lv_aload hx hb dL_points_451 (lv_at hl 7 rfl) ?_
                    refine lv_iload hx hb dL_points_453 (lv_at hl 15 rfl) ?_
                    obtain ⟨hi455, hwp⟩ := hwp
                    refine va_iald (D := D) hx hb hK hP 4 0 rfl rfl hi455 dL_points_455 ?_
                    refine lv_icmp_ne (tgt := 493) hx hb dL_points_456 (by decide) (fun c456 => ?_) (fun c456 => ?_)
                    · have hwp := hwp.1 c456
                      refine lv_iconst (v := 0) hx hb dL_points_493 (by decide) ?_
                      have hP9 : va_P D vwCl ([] ++ wK C ad u448_19) H := bd_P (lc := []) hP [] rfl
                      have hD9 : va_D A ([] ++ wK C ad u448_19) := bd_D (lc := []) hD [] rfl (by decide)
                      refine W.widen (k := 8) (n := 2048) (Nat.le_of_ble_eq_true rfl) (Nat.le_of_ble_eq_true rfl) ?_
                      exact W.zret (v := (0 : Int32)) (ty := .boolean) hx hb hr rfl (fun t ht hW => ⟨⟨(0 : Int32), (u448_19), rfl, hwp, by rw [ht]; exact hP9, va_K.moved hW.alike hK, hD9⟩, hS.F ht⟩) hS.2.2 dL_points_494
                    · have hwp := hwp.2 c456
                      refine lv_aload_n hx hb dL_points_459 rfl (lv_at hl 0 rfl) ?_
                      refine lv_iload hx hb dL_points_460 (lv_at hl 11 rfl) ?_
                      refine lv_iconst (v := 4) hx hb dL_points_462 (by decide) ?_
                      have hPc : va_P D vwCl ([] ++ wK C ad u448_19) H := bd_P (lc := []) hP [] rfl
                      have hDc : va_D A ([] ++ wK C ad u448_19) := bd_D (lc := []) hD [] rfl (by decide)
                      have hFc : ∀ q, va_A ([] ++ wK C ad u448_19) H.size q → A q := bd_free (lc := []) hD hS hA [] rfl
                      refine va_calli (va_runV (As := [.int x11, .int (4 : Int32)]) (rest := []) ⟨hx, hb, hml, hown, hts⟩ (mk_X10_point l hst D C ad x11 (4 : Int32) u448_19 H.size _ hwp) (cwV 2 hts gc_L_134 rfl rfl rfl (by decide +kernel) ⟨Nat.le_of_ble_eq_true rfl, Nat.le_of_ble_eq_true rfl⟩) ⟨fun a U g mk q => by obtain ⟨q0, q1, qP, qK, qD, qT⟩ := q; exact ⟨q0, q1, qP, va_K.moved (u := U) (U := U.calling g mk a) (Vm.Alike.refl U.vm) qK, qD, qT.mv (U := U.calling g mk a) (State.WarmedH.refl U)⟩, va_recv hK hPc (ci := 10) (q0 := 0) rfl rfl, fun U hU hW => ⟨rfl, by rw [hU], by rw [hU]; exact hPc, va_K.moved hW.alike hK, hDc.weaken (fun _ _ _ _ => trivial), hT.call hS hFc hU hW⟩⟩ rfl rfl hl.1 rfl (lv_room (Nat.le_of_ble_eq_true rfl)) dL_points_463 ⟨Nat.le_of_ble_eq_true rfl, Nat.le_of_ble_eq_true rfl⟩) hS (fun q _ h => hFc q h) hFc (fun r463 u t H1 locs ht hvm hwp hB hz1 hk1 hS => ?_)
                      obtain ⟨u463_20, rfl⟩ : ∃ z, z = u := ⟨_, rfl⟩
                      obtain ⟨hP1, -, hD1⟩ := hB
                      rw [ht] at hP1
                      obtain ⟨hP, hD⟩ := bd_join (lr := [(a13, .inl (C 0, 256, .inl ta13)), (a19, .inl (C 0, 256, .inl ta19)), (a26, .inl (C 0, 256, .inl ta26)), (a33, .inl (C 0, 256, .inl ta33)), (a40, .inl (C 0, 256, .inl ta40))]) (l1 := []) (b1 := wK C ad u463_20) hP hD [] [0, 1, 2, 3, 4] rfl rfl (by decide) (by decide) hk1 hFc hP1 hD1
                      generalize H1 = H at hP hS ⊢
                      have hP : va_P D vwCl ([(a13, .inl (C 0, 256, .inl ta13)), (a19, .inl (C 0, 256, .inl ta19)), (a26, .inl (C 0, 256, .inl ta26)), (a33, .inl (C 0, 256, .inl ta33)), (a40, .inl (C 0, 256, .inl ta40))] ++ wK C ad u463_20) H := hP
                      have hD : va_D A ([(a13, .inl (C 0, 256, .inl ta13)), (a19, .inl (C 0, 256, .inl ta19)), (a26, .inl (C 0, 256, .inl ta26)), (a33, .inl (C 0, 256, .inl ta33)), (a40, .inl (C 0, 256, .inl ta40))] ++ wK C ad u463_20) := hD
                      refine lv_aload_n hx hb dL_points_466 rfl (lv_at hl 0 rfl) ?_
                      refine lv_aload hx hb dL_points_467 (lv_at hl 5 rfl) ?_
                      refine lv_iload hx hb dL_points_469 (lv_at hl 15 rfl) ?_
                      obtain ⟨hi471, hwp⟩ := hwp
                      refine va_iald (D := D) hx hb hK hP 2 0 rfl rfl hi471 dL_points_471 ?_
                      refine lv_iconst (v := 0) hx hb dL_points_472 (by decide) ?_
                      have hPc : va_P D vwCl ([] ++ wK C ad u463_20) H := bd_P (lc := []) hP [] rfl
                      have hDc : va_D A ([] ++ wK C ad u463_20) := bd_D (lc := []) hD [] rfl (by decide)
                      have hFc : ∀ q, va_A ([] ++ wK C ad u463_20) H.size q → A q := bd_free (lc := []) hD hS hA [] rfl
                      refine va_calli (va_runS (As := [.ref (ad 0), .int (ta26 x15.toNatClampNeg), .int (0 : Int32)]) (rest := [.int r463]) ⟨hx, hb, hml, hown, hts⟩ (met_L_sum l hst D C ad (ta26 x15.toNatClampNeg) (0 : Int32) u463_20 H.size _ hwp) (va_cwS 3 hts gc_L_101 rfl rfl rfl (by decide +kernel) ⟨Nat.le_of_ble_eq_true rfl, Nat.le_of_ble_eq_true rfl⟩) ⟨fun a U g mk q => by obtain ⟨q0, q1, qP, qK, qD, qT⟩ := q; exact ⟨q0, q1, qP, va_K.moved (u := U) (U := U.calling g mk a) (Vm.Alike.refl U.vm) qK, qD, qT.mv (U := U.calling g mk a) (State.WarmedH.refl U)⟩, fun U hU hW => ⟨rfl, by rw [hU], by rw [hU]; exact hPc, va_K.moved hW.alike hK, hDc.weaken (fun _ _ _ _ => trivial), hT.call hS hFc hU hW⟩⟩ rfl rfl hl.1 rfl (lv_room (Nat.le_of_ble_eq_true rfl)) dL_points_473 ⟨Nat.le_of_ble_eq_true rfl, Nat.le_of_ble_eq_true rfl⟩) hS (fun q _ h => hFc q h) hFc (fun r473 u t H1 locs ht hvm hwp hB hz1 hk1 hS => ?_)
                      obtain ⟨u473_21, rfl⟩ : ∃ z, z = u := ⟨_, rfl⟩
                      obtain ⟨hP1, -, hD1⟩ := hB
                      rw [ht] at hP1
                      obtain ⟨hP, hD⟩ := bd_join (lr := [(a13, .inl (C 0, 256, .inl ta13)), (a19, .inl (C 0, 256, .inl ta19)), (a26, .inl (C 0, 256, .inl ta26)), (a33, .inl (C 0, 256, .inl ta33)), (a40, .inl (C 0, 256, .inl ta40))]) (l1 := []) (b1 := wK C ad u473_21) hP hD [] [0, 1, 2, 3, 4] rfl rfl (by decide) (by decide) hk1 hFc hP1 hD1
                      generalize H1 = H at hP hS ⊢
                      have hP : va_P D vwCl ([(a13, .inl (C 0, 256, .inl ta13)), (a19, .inl (C 0, 256, .inl ta19)), (a26, .inl (C 0, 256, .inl ta26)), (a33, .inl (C 0, 256, .inl ta33)), (a40, .inl (C 0, 256, .inl ta40))] ++ wK C ad u473_21) H := hP
                      have hD : va_D A ([(a13, .inl (C 0, 256, .inl ta13)), (a19, .inl (C 0, 256, .inl ta19)), (a26, .inl (C 0, 256, .inl ta26)), (a33, .inl (C 0, 256, .inl ta33)), (a40, .inl (C 0, 256, .inl ta40))] ++ wK C ad u473_21) := hD
                      refine lv_icmp_ne (tgt := 493) hx hb dL_points_476 (by decide) (fun c476 => ?_) (fun c476 => ?_)
                      · have hwp := hwp.1 c476
                        refine lv_iconst (v := 0) hx hb dL_points_493 (by decide) ?_
                        have hP9 : va_P D vwCl ([] ++ wK C ad u473_21) H := bd_P (lc := []) hP [] rfl
                        have hD9 : va_D A ([] ++ wK C ad u473_21) := bd_D (lc := []) hD [] rfl (by decide)
                        refine W.widen (k := 8) (n := 2048) (Nat.le_of_ble_eq_true rfl) (Nat.le_of_ble_eq_true rfl) ?_
                        exact W.zret (v := (0 : Int32)) (ty := .boolean) hx hb hr rfl (fun t ht hW => ⟨⟨(0 : Int32), (u473_21), rfl, hwp, by rw [ht]; exact hP9, va_K.moved hW.alike hK, hD9⟩, hS.F ht⟩) hS.2.2 dL_points_494
                      · have hwp := hwp.2 c476
                        refine lv_aload_n hx hb dL_points_479 rfl (lv_at hl 0 rfl) ?_
                        refine lv_iload hx hb dL_points_480 (lv_at hl 11 rfl) ?_
                        have hPc : va_P D vwCl ([] ++ wK C ad u473_21) H := bd_P (lc := []) hP [] rfl
                        have hDc : va_D A ([] ++ wK C ad u473_21) := bd_D (lc := []) hD [] rfl (by decide)
                        have hFc : ∀ q, va_A ([] ++ wK C ad u473_21) H.size q → A q := bd_free (lc := []) hD hS hA [] rfl
                        refine va_calli (va_runV (As := [.int x11]) (rest := []) ⟨hx, hb, hml, hown, hts⟩ (mk_X10_lightest l hst D C ad x11 u473_21 H.size _ hwp) (cwV 1 hts gc_L_137 rfl rfl rfl (by decide +kernel) ⟨Nat.le_of_ble_eq_true rfl, Nat.le_of_ble_eq_true rfl⟩) ⟨fun a U g mk q => by obtain ⟨q0, q1, qP, qK, qD, qT⟩ := q; exact ⟨q0, q1, qP, va_K.moved (u := U) (U := U.calling g mk a) (Vm.Alike.refl U.vm) qK, qD, qT.mv (U := U.calling g mk a) (State.WarmedH.refl U)⟩, va_recv hK hPc (ci := 10) (q0 := 0) rfl rfl, fun U hU hW => ⟨rfl, by rw [hU], by rw [hU]; exact hPc, va_K.moved hW.alike hK, hDc.weaken (fun _ _ _ _ => trivial), hT.call hS hFc hU hW⟩⟩ rfl rfl hl.1 rfl (lv_room (Nat.le_of_ble_eq_true rfl)) dL_points_482 ⟨Nat.le_of_ble_eq_true rfl, Nat.le_of_ble_eq_true rfl⟩) hS (fun q _ h => hFc q h) hFc (fun r482 u t H1 locs ht hvm hwp hB hz1 hk1 hS => ?_)
                        obtain ⟨u482_22, rfl⟩ : ∃ z, z = u := ⟨_, rfl⟩
                        obtain ⟨hP1, -, hD1⟩ := hB
                        rw [ht] at hP1
                        obtain ⟨hP, hD⟩ := bd_join (lr := [(a13, .inl (C 0, 256, .inl ta13)), (a19, .inl (C 0, 256, .inl ta19)), (a26, .inl (C 0, 256, .inl ta26)), (a33, .inl (C 0, 256, .inl ta33)), (a40, .inl (C 0, 256, .inl ta40))]) (l1 := []) (b1 := wK C ad u482_22) hP hD [] [0, 1, 2, 3, 4] rfl rfl (by decide) (by decide) hk1 hFc hP1 hD1
                        generalize H1 = H at hP hS ⊢
                        have hP : va_P D vwCl ([(a13, .inl (C 0, 256, .inl ta13)), (a19, .inl (C 0, 256, .inl ta19)), (a26, .inl (C 0, 256, .inl ta26)), (a33, .inl (C 0, 256, .inl ta33)), (a40, .inl (C 0, 256, .inl ta40))] ++ wK C ad u482_22) H := hP
                        have hD : va_D A ([(a13, .inl (C 0, 256, .inl ta13)), (a19, .inl (C 0, 256, .inl ta19)), (a26, .inl (C 0, 256, .inl ta26)), (a33, .inl (C 0, 256, .inl ta33)), (a40, .inl (C 0, 256, .inl ta40))] ++ wK C ad u482_22) := hD
                        refine lv_aload hx hb dL_points_485 (lv_at hl 6 rfl) ?_
                        refine lv_iload hx hb dL_points_487 (lv_at hl 15 rfl) ?_
                        obtain ⟨hi489, hwp⟩ := hwp
                        refine va_iald (D := D) hx hb hK hP 3 0 rfl rfl hi489 dL_points_489 ?_
                        refine lv_icmp_eq (tgt := 495) hx hb dL_points_490 (by decide) (fun c490 => ?_) (fun c490 => ?_)
                        · have hwp := hwp.1 c490
                          refine lv_iload hx hb dL_points_495 (lv_at hl 12 rfl) ?_
                          refine lv_iload hx hb dL_points_497 (lv_at hl 14 rfl) ?_
                          refine lv_iload hx hb dL_points_499 (lv_at hl 13 rfl) ?_
                          refine lv_isub hx hb dL_points_501 ?_
                          refine lv_aload hx hb dL_points_502 (lv_at hl 4 rfl) ?_
                          refine lv_iload hx hb dL_points_504 (lv_at hl 15 rfl) ?_
                          obtain ⟨hi506, hwp⟩ := hwp
                          refine va_iald (D := D) hx hb hK hP 1 0 rfl rfl hi506 dL_points_506 ?_
                          refine lv_imul hx hb dL_points_507 ?_
                          refine lv_iadd hx hb dL_points_508 ?_
                          refine lv_topi (fun v509 ev509 => ?_)
                          have hwp := hwp v509 ev509
                          refine lv_istore (lv' := [(12, .int v509), (0, .ref (ad 0)), (1, .int x1), (2, .int x2), (3, .ref a13), (4, .ref a19), (5, .ref a26), (6, .ref a33), (7, .ref a40), (8, .int x8), (9, .int x9), (10, .int x10), (11, .int x11), (13, .int x13), (14, .int x14), (15, .int x15), (16, .int x16)]) hx hb dL_points_509 hl (by decide) rfl (fun ls hl => ?_)
                          refine lv_iload hx hb dL_points_511 (lv_at hl 14 rfl) ?_
                          refine lv_istore (lv' := [(13, .int x14), (12, .int v509), (0, .ref (ad 0)), (1, .int x1), (2, .int x2), (3, .ref a13), (4, .ref a19), (5, .ref a26), (6, .ref a33), (7, .ref a40), (8, .int x8), (9, .int x9), (10, .int x10), (11, .int x11), (14, .int x14), (15, .int x15), (16, .int x16)]) hx hb dL_points_513 hl (by decide) rfl (fun ls hl => ?_)
                          refine lv_iinc (v := x11 + 1) (lv' := [(11, .int (x11 + 1)), (13, .int x14), (12, .int v509), (0, .ref (ad 0)), (1, .int x1), (2, .int x2), (3, .ref a13), (4, .ref a19), (5, .ref a26), (6, .ref a33), (7, .ref a40), (8, .int x8), (9, .int x9), (10, .int x10), (14, .int x14), (15, .int x15), (16, .int x16)]) hx hb dL_points_515 hl (k := 13) rfl rfl (by decide) rfl (fun ls hl => ?_)
                          refine lv_iinc (v := x10 + 1) (lv' := [(10, .int (x10 + 1)), (11, .int (x11 + 1)), (13, .int x14), (12, .int v509), (0, .ref (ad 0)), (1, .int x1), (2, .int x2), (3, .ref a13), (4, .ref a19), (5, .ref a26), (6, .ref a33), (7, .ref a40), (8, .int x8), (9, .int x9), (14, .int x14), (15, .int x15), (16, .int x16)]) hx hb dL_points_518 hl (k := 13) rfl rfl (by decide) rfl (fun ls hl => ?_)
                          refine lv_iinc (v := x15 + 1) (lv' := [(15, .int (x15 + 1)), (10, .int (x10 + 1)), (11, .int (x11 + 1)), (13, .int x14), (12, .int v509), (0, .ref (ad 0)), (1, .int x1), (2, .int x2), (3, .ref a13), (4, .ref a19), (5, .ref a26), (6, .ref a33), (7, .ref a40), (8, .int x8), (9, .int x9), (14, .int x14), (16, .int x16)]) hx hb dL_points_521 hl (k := 15) rfl rfl (by decide) rfl (fun ls hl => ?_)
                          refine lv_goto (tgt := 313) hx hb dL_points_524 (by decide) ?_
                          have hl9 := lv_sub (l' := [(0, .ref (ad 0)), (1, .int x1), (2, .int x2), (3, .ref a13), (4, .ref a19), (5, .ref a26), (6, .ref a33), (7, .ref a40), (8, .int x8), (9, .int x9), (10, .int (x10 + 1)), (11, .int (x11 + 1)), (12, .int v509), (13, .int x14), (14, .int x14), (15, .int (x15 + 1))]) hl [5, 6, 7, 8, 9, 10, 11, 12, 13, 14, 1, 2, 4, 3, 15, 0] rfl
                          have hP9 : va_P D vwCl ([(a13, .inl (C 0, 256, .inl ta13)), (a19, .inl (C 0, 256, .inl ta19)), (a26, .inl (C 0, 256, .inl ta26)), (a33, .inl (C 0, 256, .inl ta33)), (a40, .inl (C 0, 256, .inl ta40))] ++ wK C ad u482_22) H := bd_P (lc := [(a13, .inl (C 0, 256, .inl ta13)), (a19, .inl (C 0, 256, .inl ta19)), (a26, .inl (C 0, 256, .inl ta26)), (a33, .inl (C 0, 256, .inl ta33)), (a40, .inl (C 0, 256, .inl ta40))]) hP [0, 1, 2, 3, 4] rfl
                          have hD9 : va_D A ([(a13, .inl (C 0, 256, .inl ta13)), (a19, .inl (C 0, 256, .inl ta19)), (a26, .inl (C 0, 256, .inl ta26)), (a33, .inl (C 0, 256, .inl ta33)), (a40, .inl (C 0, 256, .inl ta40))] ++ wK C ad u482_22) := bd_D (lc := [(a13, .inl (C 0, 256, .inl ta13)), (a19, .inl (C 0, 256, .inl ta19)), (a26, .inl (C 0, 256, .inl ta26)), (a33, .inl (C 0, 256, .inl ta33)), (a40, .inl (C 0, 256, .inl ta40))]) hD [0, 1, 2, 3, 4] rfl (by decide)
                          exact ih (x10 + 1) (x11 + 1) v509 x14 (x15 + 1) u482_22 H locs ls hl9 hP9 hD9 hS hwp
                        · have hwp := hwp.2 c490
                          refine lv_iconst (v := 0) hx hb dL_points_493 (by decide) ?_
                          have hP9 : va_P D vwCl ([] ++ wK C ad u482_22) H := bd_P (lc := []) hP [] rfl
                          have hD9 : va_D A ([] ++ wK C ad u482_22) := bd_D (lc := []) hD [] rfl (by decide)
                          refine W.widen (k := 8) (n := 2048) (Nat.le_of_ble_eq_true rfl) (Nat.le_of_ble_eq_true rfl) ?_
                          exact W.zret (v := (0 : Int32)) (ty := .boolean) hx hb hr rfl (fun t ht hW => ⟨⟨(0 : Int32), (u482_22), rfl, hwp, by rw [ht]; exact hP9, va_K.moved hW.alike hK, hD9⟩, hS.F ht⟩) hS.2.2 dL_points_494
          · have hwp := hwp.2 c389
            refine lv_goto (tgt := 521) hx hb dL_points_392 (by decide) ?_
            refine lv_iinc (v := x15 + 1) (lv' := [(15, .int (x15 + 1)), (0, .ref (ad 0)), (1, .int x1), (2, .int x2), (3, .ref a13), (4, .ref a19), (5, .ref a26), (6, .ref a33), (7, .ref a40), (8, .int x8), (9, .int x9), (10, .int x10), (11, .int x11), (12, .int x12), (13, .int x13), (14, .int x14), (16, .int x16)]) hx hb dL_points_521 hl (k := 15) rfl rfl (by decide) rfl (fun ls hl => ?_)
            refine lv_goto (tgt := 313) hx hb dL_points_524 (by decide) ?_
            have hl9 := lv_sub (l' := [(0, .ref (ad 0)), (1, .int x1), (2, .int x2), (3, .ref a13), (4, .ref a19), (5, .ref a26), (6, .ref a33), (7, .ref a40), (8, .int x8), (9, .int x9), (10, .int x10), (11, .int x11), (12, .int x12), (13, .int x13), (14, .int x14), (15, .int (x15 + 1))]) hl [1, 2, 3, 4, 5, 6, 7, 8, 9, 10, 11, 12, 13, 14, 15, 0] rfl
            have hP9 : va_P D vwCl ([(a13, .inl (C 0, 256, .inl ta13)), (a19, .inl (C 0, 256, .inl ta19)), (a26, .inl (C 0, 256, .inl ta26)), (a33, .inl (C 0, 256, .inl ta33)), (a40, .inl (C 0, 256, .inl ta40))] ++ wK C ad d) H := bd_P (lc := [(a13, .inl (C 0, 256, .inl ta13)), (a19, .inl (C 0, 256, .inl ta19)), (a26, .inl (C 0, 256, .inl ta26)), (a33, .inl (C 0, 256, .inl ta33)), (a40, .inl (C 0, 256, .inl ta40))]) hP [0, 1, 2, 3, 4] rfl
            have hD9 : va_D A ([(a13, .inl (C 0, 256, .inl ta13)), (a19, .inl (C 0, 256, .inl ta19)), (a26, .inl (C 0, 256, .inl ta26)), (a33, .inl (C 0, 256, .inl ta33)), (a40, .inl (C 0, 256, .inl ta40))] ++ wK C ad d) := bd_D (lc := [(a13, .inl (C 0, 256, .inl ta13)), (a19, .inl (C 0, 256, .inl ta19)), (a26, .inl (C 0, 256, .inl ta26)), (a33, .inl (C 0, 256, .inl ta33)), (a40, .inl (C 0, 256, .inl ta40))]) hD [0, 1, 2, 3, 4] rfl (by decide)
            exact ih x10 x11 x12 x13 (x15 + 1) d H locs ls hl9 hP9 hD9 hS hwp
        · have hwp := hwp.2 c326
          refine lv_goto (tgt := 521) hx hb dL_points_329 (by decide) ?_
          refine lv_iinc (v := x15 + 1) (lv' := [(15, .int (x15 + 1)), (0, .ref (ad 0)), (1, .int x1), (2, .int x2), (3, .ref a13), (4, .ref a19), (5, .ref a26), (6, .ref a33), (7, .ref a40), (8, .int x8), (9, .int x9), (10, .int x10), (11, .int x11), (12, .int x12), (13, .int x13), (14, .int x14)]) hx hb dL_points_521 hl (k := 15) rfl rfl (by decide) rfl (fun ls hl => ?_)
          refine lv_goto (tgt := 313) hx hb dL_points_524 (by decide) ?_
          have hl9 := lv_sub (l' := [(0, .ref (ad 0)), (1, .int x1), (2, .int x2), (3, .ref a13), (4, .ref a19), (5, .ref a26), (6, .ref a33), (7, .ref a40), (8, .int x8), (9, .int x9), (10, .int x10), (11, .int x11), (12, .int x12), (13, .int x13), (14, .int x14), (15, .int (x15 + 1))]) hl [1, 2, 3, 4, 5, 6, 7, 8, 9, 10, 11, 12, 13, 14, 15, 0] rfl
          have hP9 : va_P D vwCl ([(a13, .inl (C 0, 256, .inl ta13)), (a19, .inl (C 0, 256, .inl ta19)), (a26, .inl (C 0, 256, .inl ta26)), (a33, .inl (C 0, 256, .inl ta33)), (a40, .inl (C 0, 256, .inl ta40))] ++ wK C ad d) H := bd_P (lc := [(a13, .inl (C 0, 256, .inl ta13)), (a19, .inl (C 0, 256, .inl ta19)), (a26, .inl (C 0, 256, .inl ta26)), (a33, .inl (C 0, 256, .inl ta33)), (a40, .inl (C 0, 256, .inl ta40))]) hP [0, 1, 2, 3, 4] rfl
          have hD9 : va_D A ([(a13, .inl (C 0, 256, .inl ta13)), (a19, .inl (C 0, 256, .inl ta19)), (a26, .inl (C 0, 256, .inl ta26)), (a33, .inl (C 0, 256, .inl ta33)), (a40, .inl (C 0, 256, .inl ta40))] ++ wK C ad d) := bd_D (lc := [(a13, .inl (C 0, 256, .inl ta13)), (a19, .inl (C 0, 256, .inl ta19)), (a26, .inl (C 0, 256, .inl ta26)), (a33, .inl (C 0, 256, .inl ta33)), (a40, .inl (C 0, 256, .inl ta40))]) hD [0, 1, 2, 3, 4] rfl (by decide)
          exact ih x10 x11 x12 x13 (x15 + 1) d H locs ls hl9 hP9 hD9 hS hwp
  have HL302 : ∀ (a13 : Nat) (a19 : Nat) (a26 : Nat) (a33 : Nat) (a40 : Nat) (x1 : Int32) (x2 : Int32) (x8 : Int32) (x9 : Int32) (ta13 : Nat → Int32) (ta19 : Nat → Int32) (ta26 : Nat → Int32) (ta33 : Nat → Int32) (ta40 : Nat → Int32) (k533 : Int32 → Int32 → DT → Prop) (hk533 : ∀ (x10 : Int32) (x12 : Int32) (d : DT) (H : Heap) (locs : List Loc) (ls : Array Slot), lv_has ls 18 [(0, .ref (ad 0)), (1, .int x1), (2, .int x2), (3, .ref a13), (4, .ref a19), (8, .int x8), (10, .int x10), (12, .int x12)] → va_P D vwCl ([(a13, .inl (C 0, 256, .inl ta13)), (a19, .inl (C 0, 256, .inl ta19))] ++ wK C ad d) H → va_D A ([(a13, .inl (C 0, 256, .inl ta13)), (a19, .inl (C 0, 256, .inl ta19))] ++ wK C ad d) → va_S A s.heap H locs → k533 x10 x12 d → W p l e (headSpec ws_L_points rm_L_points).room s m ([.ref (ad 0)] : List Value).toArray below meth c H locs 5 1280 (MQ below (q_L_points D C ad Q A) ([.ref (ad 0)] : List Value).toArray s 8 2048 A) (F0 m 533 ls [])) (n302 : Nat) (x10 : Int32) (x11 : Int32) (x12 : Int32) (x13 : Int32) (x14 : Int32) (d : DT) (H : Heap) (locs : List Loc) (ls : Array Slot), lv_has ls 18 [(0, .ref (ad 0)), (1, .int x1), (2, .int x2), (3, .ref a13), (4, .ref a19), (5, .ref a26), (6, .ref a33), (7, .ref a40), (8, .int x8), (9, .int x9), (10, .int x10), (11, .int x11), (12, .int x12), (13, .int x13), (14, .int x14)] → va_P D vwCl ([(a13, .inl (C 0, 256, .inl ta13)), (a19, .inl (C 0, 256, .inl ta19)), (a26, .inl (C 0, 256, .inl ta26)), (a33, .inl (C 0, 256, .inl ta33)), (a40, .inl (C 0, 256, .inl ta40))] ++ wK C ad d) H → va_D A ([(a13, .inl (C 0, 256, .inl ta13)), (a19, .inl (C 0, 256, .inl ta19)), (a26, .inl (C 0, 256, .inl ta26)), (a33, .inl (C 0, 256, .inl ta33)), (a40, .inl (C 0, 256, .inl ta40))] ++ wK C ad d) → va_S A s.heap H locs → wp_L_points_L302 x1 x2 x8 x9 ta13 ta19 ta26 ta33 ta40 k533 Q n302 x10 x11 x12 x13 x14 d → W p l e (headSpec ws_L_points rm_L_points).room s m ([.ref (ad 0)] : List Value).toArray below meth c H locs 5 1280 (MQ below (q_L_points D C ad Q A) ([.ref (ad 0)] : List Value).toArray s 8 2048 A) (F0 m 302 ls []) := by
    intro a13 a19 a26 a33 a40 x1 x2 x8 x9 ta13 ta19 ta26 ta33 ta40 k533 hk533 n302
    induction n302 with
    | zero =>
      intro x10 x11 x12 x13 x14 d H locs ls hl hP hD hS hwp
      exact False.elim hwp
    | succ n302 ih =>
      intro x10 x11 x12 x13 x14 d H locs ls hl hP hD hS hwp
      unfold wp_L_points_L302 at hwp
      refine lv_iload hx hb dL_points_302 (lv_at hl 14 rfl) ?_
      refine lv_sipush (v := 900) hx hb dL_points_304 (by decide) ?_
      refine lv_icmp_ge (tgt := 533) hx hb dL_points_307 (by decide) (fun c307 => ?_) (fun c307 => ?_)
      · have hwp := hwp.1 c307
        have hl9 := lv_sub (l' := [(0, .ref (ad 0)), (1, .int x1), (2, .int x2), (3, .ref a13), (4, .ref a19), (8, .int x8), (10, .int x10), (12, .int x12)]) hl [0, 1, 2, 3, 4, 8, 10, 12] rfl
        have hP9 : va_P D vwCl ([(a13, .inl (C 0, 256, .inl ta13)), (a19, .inl (C 0, 256, .inl ta19))] ++ wK C ad d) H := bd_P (lc := [(a13, .inl (C 0, 256, .inl ta13)), (a19, .inl (C 0, 256, .inl ta19))]) hP [0, 1] rfl
        have hD9 : va_D A ([(a13, .inl (C 0, 256, .inl ta13)), (a19, .inl (C 0, 256, .inl ta19))] ++ wK C ad d) := bd_D (lc := [(a13, .inl (C 0, 256, .inl ta13)), (a19, .inl (C 0, 256, .inl ta19))]) hD [0, 1] rfl (by decide)
        exact hk533 x10 x12 d H locs ls hl9 hP9 hD9 hS hwp
      · have hwp := hwp.2 c307
        refine lv_iconst (v := 0) hx hb dL_points_310 (by decide) ?_
        refine lv_istore (lv' := [(15, .int (0 : Int32)), (0, .ref (ad 0)), (1, .int x1), (2, .int x2), (3, .ref a13), (4, .ref a19), (5, .ref a26), (6, .ref a33), (7, .ref a40), (8, .int x8), (9, .int x9), (10, .int x10), (11, .int x11), (12, .int x12), (13, .int x13), (14, .int x14)]) hx hb dL_points_311 hl (by decide) rfl (fun ls hl => ?_)
        have hl9 := lv_sub (l' := [(0, .ref (ad 0)), (1, .int x1), (2, .int x2), (3, .ref a13), (4, .ref a19), (5, .ref a26), (6, .ref a33), (7, .ref a40), (8, .int x8), (9, .int x9), (10, .int x10), (11, .int x11), (12, .int x12), (13, .int x13), (14, .int x14), (15, .int (0 : Int32))]) hl [1, 2, 3, 4, 5, 6, 7, 8, 9, 10, 11, 12, 13, 14, 15, 0] rfl
        have hP9 : va_P D vwCl ([(a13, .inl (C 0, 256, .inl ta13)), (a19, .inl (C 0, 256, .inl ta19)), (a26, .inl (C 0, 256, .inl ta26)), (a33, .inl (C 0, 256, .inl ta33)), (a40, .inl (C 0, 256, .inl ta40))] ++ wK C ad d) H := bd_P (lc := [(a13, .inl (C 0, 256, .inl ta13)), (a19, .inl (C 0, 256, .inl ta19)), (a26, .inl (C 0, 256, .inl ta26)), (a33, .inl (C 0, 256, .inl ta33)), (a40, .inl (C 0, 256, .inl ta40))]) hP [0, 1, 2, 3, 4] rfl
        have hD9 : va_D A ([(a13, .inl (C 0, 256, .inl ta13)), (a19, .inl (C 0, 256, .inl ta19)), (a26, .inl (C 0, 256, .inl ta26)), (a33, .inl (C 0, 256, .inl ta33)), (a40, .inl (C 0, 256, .inl ta40))] ++ wK C ad d) := bd_D (lc := [(a13, .inl (C 0, 256, .inl ta13)), (a19, .inl (C 0, 256, .inl ta19)), (a26, .inl (C 0, 256, .inl ta26)), (a33, .inl (C 0, 256, .inl ta33)), (a40, .inl (C 0, 256, .inl ta40))]) hD [0, 1, 2, 3, 4] rfl (by decide)
        obtain ⟨nn9, hwp⟩ := hwp
        refine HL313 a13 a19 a26 a33 a40 x1 x2 x8 x9 x14 ta13 ta19 ta26 ta33 ta40 _ (fun x10 x11 x12 x13 d H locs ls hl hP hD hS hwp => ?_) nn9 x10 x11 x12 x13 (0 : Int32) d H locs ls hl9 hP9 hD9 hS hwp
        refine lv_iinc (v := x14 + 1) (lv' := [(14, .int (x14 + 1)), (0, .ref (ad 0)), (1, .int x1), (2, .int x2), (3, .ref a13), (4, .ref a19), (5, .ref a26), (6, .ref a33), (7, .ref a40), (8, .int x8), (9, .int x9), (10, .int x10), (11, .int x11), (12, .int x12), (13, .int x13)]) hx hb dL_points_527 hl (k := 14) rfl rfl (by decide) rfl (fun ls hl => ?_)
        refine lv_goto (tgt := 302) hx hb dL_points_530 (by decide) ?_
        have hl9 := lv_sub (l' := [(0, .ref (ad 0)), (1, .int x1), (2, .int x2), (3, .ref a13), (4, .ref a19), (5, .ref a26), (6, .ref a33), (7, .ref a40), (8, .int x8), (9, .int x9), (10, .int x10), (11, .int x11), (12, .int x12), (13, .int x13), (14, .int (x14 + 1))]) hl [1, 2, 3, 4, 5, 6, 7, 8, 9, 10, 11, 12, 13, 14, 0] rfl
        have hP9 : va_P D vwCl ([(a13, .inl (C 0, 256, .inl ta13)), (a19, .inl (C 0, 256, .inl ta19)), (a26, .inl (C 0, 256, .inl ta26)), (a33, .inl (C 0, 256, .inl ta33)), (a40, .inl (C 0, 256, .inl ta40))] ++ wK C ad d) H := bd_P (lc := [(a13, .inl (C 0, 256, .inl ta13)), (a19, .inl (C 0, 256, .inl ta19)), (a26, .inl (C 0, 256, .inl ta26)), (a33, .inl (C 0, 256, .inl ta33)), (a40, .inl (C 0, 256, .inl ta40))]) hP [0, 1, 2, 3, 4] rfl
        have hD9 : va_D A ([(a13, .inl (C 0, 256, .inl ta13)), (a19, .inl (C 0, 256, .inl ta19)), (a26, .inl (C 0, 256, .inl ta26)), (a33, .inl (C 0, 256, .inl ta33)), (a40, .inl (C 0, 256, .inl ta40))] ++ wK C ad d) := bd_D (lc := [(a13, .inl (C 0, 256, .inl ta13)), (a19, .inl (C 0, 256, .inl ta19)), (a26, .inl (C 0, 256, .inl ta26)), (a33, .inl (C 0, 256, .inl ta33)), (a40, .inl (C 0, 256, .inl ta40))]) hD [0, 1, 2, 3, 4] rfl (by decide)
        exact ih x10 x11 x12 x13 (x14 + 1) d H locs ls hl9 hP9 hD9 hS hwp
  unfold wp_L_points at hwp
  obtain ⟨H, hH⟩ : ∃ H, H = s.heap := ⟨_, rfl⟩
  obtain ⟨locs, hlo⟩ : ∃ z : List Loc, z = [] := ⟨_, rfl⟩
  have hP : va_P D vwCl ([] ++ wK C ad d) H := by rw [hH]; exact hP
  have hD : va_D A ([] ++ wK C ad d) := hD
  have hS : va_S A s.heap H locs := by rw [hH, hlo]; exact hS
  suffices K : W p l e (headSpec ws_L_points rm_L_points).room s m ([.ref (ad 0)] : List Value).toArray below meth c H locs 0 0 (MQ below (q_L_points D C ad Q A) ([.ref (ad 0)] : List Value).toArray s 8 2048 A) (F0 m 0 ls []) from by rw [hH, hlo] at K; exact K
  refine lv_iconst (v := 1) hx hb dL_points_0 (by decide) ?_
  refine lv_aload_n hx hb dL_points_1 rfl (lv_at hl 0 rfl) ?_
  refine lv_iconst (v := 0) hx hb dL_points_2 (by decide) ?_
  have hPc : va_P D vwCl ([] ++ wK C ad d) H := bd_P (lc := []) hP [] rfl
  have hDc : va_D A ([] ++ wK C ad d) := bd_D (lc := []) hD [] rfl (by decide)
  have hFc : ∀ q, va_A ([] ++ wK C ad d) H.size q → A q := bd_free (lc := []) hD hS hA [] rfl
  refine va_calli (va_runV (As := [.int (0 : Int32)]) (rest := [.int (1 : Int32)]) ⟨hx, hb, hml, hown, hts⟩ (mk_X10_property l hst D C ad (0 : Int32) d H.size _ hwp) (cwV 1 hts gc_L_94 rfl rfl rfl (by decide +kernel) ⟨Nat.le_of_ble_eq_true rfl, Nat.le_of_ble_eq_true rfl⟩) ⟨fun a U g mk q => by obtain ⟨q0, q1, qP, qK, qD, qT⟩ := q; exact ⟨q0, q1, qP, va_K.moved (u := U) (U := U.calling g mk a) (Vm.Alike.refl U.vm) qK, qD, qT.mv (U := U.calling g mk a) (State.WarmedH.refl U)⟩, va_recv hK hPc (ci := 10) (q0 := 0) rfl rfl, fun U hU hW => ⟨rfl, by rw [hU], by rw [hU]; exact hPc, va_K.moved hW.alike hK, hDc.weaken (fun _ _ _ _ => trivial), hT.call hS hFc hU hW⟩⟩ rfl rfl hl.1 rfl (lv_room (Nat.le_of_ble_eq_true rfl)) dL_points_3 ⟨Nat.le_of_ble_eq_true rfl, Nat.le_of_ble_eq_true rfl⟩) hS (fun q _ h => hFc q h) hFc (fun r3 u t H1 locs ht hvm hwp hB hz1 hk1 hS => ?_)
  obtain ⟨u3_1, rfl⟩ : ∃ z, z = u := ⟨_, rfl⟩
  obtain ⟨hP1, -, hD1⟩ := hB
  rw [ht] at hP1
  obtain ⟨hP, hD⟩ := bd_join (lr := []) (l1 := []) (b1 := wK C ad u3_1) hP hD [] [] rfl rfl (by decide) (by decide) hk1 hFc hP1 hD1
  generalize H1 = H at hP hS ⊢
  have hP : va_P D vwCl ([] ++ wK C ad u3_1) H := hP
  have hD : va_D A ([] ++ wK C ad u3_1) := hD
  refine lv_ishl hx hb dL_points_6 ?_
  refine lv_topi (fun v7 ev7 => ?_)
  have hwp := hwp v7 ev7
  refine lv_istore_n (lv' := [(1, .int v7), (0, .ref (ad 0))]) hx hb dL_points_7 rfl hl (by decide) rfl (fun ls hl => ?_)
  refine lv_iconst (v := 0) hx hb dL_points_8 (by decide) ?_
  refine lv_istore_n (lv' := [(2, .int (0 : Int32)), (1, .int v7), (0, .ref (ad 0))]) hx hb dL_points_9 rfl hl (by decide) rfl (fun ls hl => ?_)
  refine lv_sipush (v := 256) hx hb dL_points_10 (by decide) ?_
  refine va_newa (atype := .int) (N' := 256) (a0 := (256, .inl (fun _ => 0))) hx hb (hts (.arrayClass .int) wd_146) rfl hK hP hD hS hA (fun cA => rfl) (by decide) (by decide) (Nat.le_of_ble_eq_true rfl) (Nat.le_of_ble_eq_true rfl) (Nat.le_of_ble_eq_true rfl) dL_points_13 (fun a13 cA H hK1 hP hD hS => ?_)
  obtain rfl : cA = C 0 := Option.some.inj ((hK1.2 4 _ rfl).2.symm.trans (hK.2 0 _ rfl).2)
  clear hK1
  have hP := bd_mvP hP
  have hD := bd_mvD hD
  have hP : va_P D vwCl ([(a13, .inl (C 0, 256, .inl (fun _ => 0)))] ++ wK C ad u3_1) H := hP
  have hD : va_D A ([(a13, .inl (C 0, 256, .inl (fun _ => 0)))] ++ wK C ad u3_1) := hD
  refine lv_astore_n (lv' := [(3, .ref a13), (2, .int (0 : Int32)), (1, .int v7), (0, .ref (ad 0))]) hx hb dL_points_15 rfl hl (by decide) rfl (fun ls hl => ?_)
  refine lv_sipush (v := 256) hx hb dL_points_16 (by decide) ?_
  refine va_newa (atype := .int) (N' := 256) (a0 := (256, .inl (fun _ => 0))) hx hb (hts (.arrayClass .int) wd_146) rfl hK hP hD hS hA (fun cA => rfl) (by decide) (by decide) (Nat.le_of_ble_eq_true rfl) (Nat.le_of_ble_eq_true rfl) (Nat.le_of_ble_eq_true rfl) dL_points_19 (fun a19 cA H hK1 hP hD hS => ?_)
  obtain rfl : cA = C 0 := Option.some.inj ((hK1.2 4 _ rfl).2.symm.trans (hK.2 0 _ rfl).2)
  clear hK1
  have hP := bd_mvP hP
  have hD := bd_mvD hD
  have hP : va_P D vwCl ([(a13, .inl (C 0, 256, .inl (fun _ => 0))), (a19, .inl (C 0, 256, .inl (fun _ => 0)))] ++ wK C ad u3_1) H := hP
  have hD : va_D A ([(a13, .inl (C 0, 256, .inl (fun _ => 0))), (a19, .inl (C 0, 256, .inl (fun _ => 0)))] ++ wK C ad u3_1) := hD
  refine lv_astore (lv' := [(4, .ref a19), (3, .ref a13), (2, .int (0 : Int32)), (1, .int v7), (0, .ref (ad 0))]) hx hb dL_points_21 hl (by decide) rfl (fun ls hl => ?_)
  refine lv_sipush (v := 256) hx hb dL_points_23 (by decide) ?_
  refine va_newa (atype := .int) (N' := 256) (a0 := (256, .inl (fun _ => 0))) hx hb (hts (.arrayClass .int) wd_146) rfl hK hP hD hS hA (fun cA => rfl) (by decide) (by decide) (Nat.le_of_ble_eq_true rfl) (Nat.le_of_ble_eq_true rfl) (Nat.le_of_ble_eq_true rfl) dL_points_26 (fun a26 cA H hK1 hP hD hS => ?_)
  obtain rfl : cA = C 0 := Option.some.inj ((hK1.2 4 _ rfl).2.symm.trans (hK.2 0 _ rfl).2)
  clear hK1
  have hP := bd_mvP hP
  have hD := bd_mvD hD
  have hP : va_P D vwCl ([(a13, .inl (C 0, 256, .inl (fun _ => 0))), (a19, .inl (C 0, 256, .inl (fun _ => 0))), (a26, .inl (C 0, 256, .inl (fun _ => 0)))] ++ wK C ad u3_1) H := hP
  have hD : va_D A ([(a13, .inl (C 0, 256, .inl (fun _ => 0))), (a19, .inl (C 0, 256, .inl (fun _ => 0))), (a26, .inl (C 0, 256, .inl (fun _ => 0)))] ++ wK C ad u3_1) := hD
  refine lv_astore (lv' := [(5, .ref a26), (4, .ref a19), (3, .ref a13), (2, .int (0 : Int32)), (1, .int v7), (0, .ref (ad 0))]) hx hb dL_points_28 hl (by decide) rfl (fun ls hl => ?_)
  refine lv_sipush (v := 256) hx hb dL_points_30 (by decide) ?_
  refine va_newa (atype := .int) (N' := 256) (a0 := (256, .inl (fun _ => 0))) hx hb (hts (.arrayClass .int) wd_146) rfl hK hP hD hS hA (fun cA => rfl) (by decide) (by decide) (Nat.le_of_ble_eq_true rfl) (Nat.le_of_ble_eq_true rfl) (Nat.le_of_ble_eq_true rfl) dL_points_33 (fun a33 cA H hK1 hP hD hS => ?_)
  obtain rfl : cA = C 0 := Option.some.inj ((hK1.2 4 _ rfl).2.symm.trans (hK.2 0 _ rfl).2)
  clear hK1
  have hP := bd_mvP hP
  have hD := bd_mvD hD
  have hP : va_P D vwCl ([(a13, .inl (C 0, 256, .inl (fun _ => 0))), (a19, .inl (C 0, 256, .inl (fun _ => 0))), (a26, .inl (C 0, 256, .inl (fun _ => 0))), (a33, .inl (C 0, 256, .inl (fun _ => 0)))] ++ wK C ad u3_1) H := hP
  have hD : va_D A ([(a13, .inl (C 0, 256, .inl (fun _ => 0))), (a19, .inl (C 0, 256, .inl (fun _ => 0))), (a26, .inl (C 0, 256, .inl (fun _ => 0))), (a33, .inl (C 0, 256, .inl (fun _ => 0)))] ++ wK C ad u3_1) := hD
  refine lv_astore (lv' := [(6, .ref a33), (5, .ref a26), (4, .ref a19), (3, .ref a13), (2, .int (0 : Int32)), (1, .int v7), (0, .ref (ad 0))]) hx hb dL_points_35 hl (by decide) rfl (fun ls hl => ?_)
  refine lv_sipush (v := 256) hx hb dL_points_37 (by decide) ?_
  refine va_newa (atype := .int) (N' := 256) (a0 := (256, .inl (fun _ => 0))) hx hb (hts (.arrayClass .int) wd_146) rfl hK hP hD hS hA (fun cA => rfl) (by decide) (by decide) (Nat.le_of_ble_eq_true rfl) (Nat.le_of_ble_eq_true rfl) (Nat.le_of_ble_eq_true rfl) dL_points_40 (fun a40 cA H hK1 hP hD hS => ?_)
  obtain rfl : cA = C 0 := Option.some.inj ((hK1.2 4 _ rfl).2.symm.trans (hK.2 0 _ rfl).2)
  clear hK1
  have hP := bd_mvP hP
  have hD := bd_mvD hD
  have hP : va_P D vwCl ([(a13, .inl (C 0, 256, .inl (fun _ => 0))), (a19, .inl (C 0, 256, .inl (fun _ => 0))), (a26, .inl (C 0, 256, .inl (fun _ => 0))), (a33, .inl (C 0, 256, .inl (fun _ => 0))), (a40, .inl (C 0, 256, .inl (fun _ => 0)))] ++ wK C ad u3_1) H := hP
  have hD : va_D A ([(a13, .inl (C 0, 256, .inl (fun _ => 0))), (a19, .inl (C 0, 256, .inl (fun _ => 0))), (a26, .inl (C 0, 256, .inl (fun _ => 0))), (a33, .inl (C 0, 256, .inl (fun _ => 0))), (a40, .inl (C 0, 256, .inl (fun _ => 0)))] ++ wK C ad u3_1) := hD
  refine lv_astore (lv' := [(7, .ref a40), (6, .ref a33), (5, .ref a26), (4, .ref a19), (3, .ref a13), (2, .int (0 : Int32)), (1, .int v7), (0, .ref (ad 0))]) hx hb dL_points_42 hl (by decide) rfl (fun ls hl => ?_)
  refine lv_iconst (v := 0) hx hb dL_points_44 (by decide) ?_
  refine lv_istore (lv' := [(8, .int (0 : Int32)), (7, .ref a40), (6, .ref a33), (5, .ref a26), (4, .ref a19), (3, .ref a13), (2, .int (0 : Int32)), (1, .int v7), (0, .ref (ad 0))]) hx hb dL_points_45 hl (by decide) rfl (fun ls hl => ?_)
  refine lv_iconst (v := 0) hx hb dL_points_47 (by decide) ?_
  refine lv_istore (lv' := [(9, .int (0 : Int32)), (8, .int (0 : Int32)), (7, .ref a40), (6, .ref a33), (5, .ref a26), (4, .ref a19), (3, .ref a13), (2, .int (0 : Int32)), (1, .int v7), (0, .ref (ad 0))]) hx hb dL_points_48 hl (by decide) rfl (fun ls hl => ?_)
  have hl9 := lv_sub (l' := [(0, .ref (ad 0)), (1, .int v7), (2, .int (0 : Int32)), (3, .ref a13), (4, .ref a19), (5, .ref a26), (6, .ref a33), (7, .ref a40), (8, .int (0 : Int32)), (9, .int (0 : Int32))]) hl [9, 8, 7, 6, 5, 4, 3, 2, 1, 0] rfl
  have hP9 : va_P D vwCl ([(a13, .inl (C 0, 256, .inl (fun _ => 0))), (a19, .inl (C 0, 256, .inl (fun _ => 0))), (a26, .inl (C 0, 256, .inl (fun _ => 0))), (a33, .inl (C 0, 256, .inl (fun _ => 0))), (a40, .inl (C 0, 256, .inl (fun _ => 0)))] ++ wK C ad u3_1) H := bd_P (lc := [(a13, .inl (C 0, 256, .inl (fun _ => 0))), (a19, .inl (C 0, 256, .inl (fun _ => 0))), (a26, .inl (C 0, 256, .inl (fun _ => 0))), (a33, .inl (C 0, 256, .inl (fun _ => 0))), (a40, .inl (C 0, 256, .inl (fun _ => 0)))]) hP [0, 1, 2, 3, 4] rfl
  have hD9 : va_D A ([(a13, .inl (C 0, 256, .inl (fun _ => 0))), (a19, .inl (C 0, 256, .inl (fun _ => 0))), (a26, .inl (C 0, 256, .inl (fun _ => 0))), (a33, .inl (C 0, 256, .inl (fun _ => 0))), (a40, .inl (C 0, 256, .inl (fun _ => 0)))] ++ wK C ad u3_1) := bd_D (lc := [(a13, .inl (C 0, 256, .inl (fun _ => 0))), (a19, .inl (C 0, 256, .inl (fun _ => 0))), (a26, .inl (C 0, 256, .inl (fun _ => 0))), (a33, .inl (C 0, 256, .inl (fun _ => 0))), (a40, .inl (C 0, 256, .inl (fun _ => 0)))]) hD [0, 1, 2, 3, 4] rfl (by decide)
  obtain ⟨nn9, hwp⟩ := hwp
  refine HL50 a13 a19 a26 a33 a40 v7 _ (fun x2 x8 d ta13 ta19 ta26 ta33 ta40 H locs ls hl hP hD hS hwp => ?_) nn9 (0 : Int32) (0 : Int32) (0 : Int32) u3_1 (fun _ => 0) (fun _ => 0) (fun _ => 0) (fun _ => 0) (fun _ => 0) H locs ls hl9 hP9 hD9 hS hwp
  refine lv_aload_n hx hb dL_points_271 rfl (lv_at hl 0 rfl) ?_
  have hPc : va_P D vwCl ([] ++ wK C ad d) H := bd_P (lc := []) hP [] rfl
  have hDc : va_D A ([] ++ wK C ad d) := bd_D (lc := []) hD [] rfl (by decide)
  have hFc : ∀ q, va_A ([] ++ wK C ad d) H.size q → A q := bd_free (lc := []) hD hS hA [] rfl
  refine va_calli (va_runV (As := []) (rest := []) ⟨hx, hb, hml, hown, hts⟩ (mk_X10_allowed l hst D C ad d H.size _ hwp) (cwV 0 hts gc_L_124 rfl rfl rfl (by decide +kernel) ⟨Nat.le_of_ble_eq_true rfl, Nat.le_of_ble_eq_true rfl⟩) ⟨fun a U g mk q => by obtain ⟨q0, q1, qP, qK, qD, qT⟩ := q; exact ⟨q0, q1, qP, va_K.moved (u := U) (U := U.calling g mk a) (Vm.Alike.refl U.vm) qK, qD, qT.mv (U := U.calling g mk a) (State.WarmedH.refl U)⟩, va_recv hK hPc (ci := 10) (q0 := 0) rfl rfl, fun U hU hW => ⟨rfl, by rw [hU], by rw [hU]; exact hPc, va_K.moved hW.alike hK, hDc.weaken (fun _ _ _ _ => trivial), hT.call hS hFc hU hW⟩⟩ rfl rfl hl.1 rfl (lv_room (Nat.le_of_ble_eq_true rfl)) dL_points_272 ⟨Nat.le_of_ble_eq_true rfl, Nat.le_of_ble_eq_true rfl⟩) hS (fun q _ h => hFc q h) hFc (fun r272 u t H1 locs ht hvm hwp hB hz1 hk1 hS => ?_)
  obtain ⟨u272_14, rfl⟩ : ∃ z, z = u := ⟨_, rfl⟩
  obtain ⟨hP1, -, hD1⟩ := hB
  rw [ht] at hP1
  obtain ⟨hP, hD⟩ := bd_join (lr := [(a13, .inl (C 0, 256, .inl ta13)), (a19, .inl (C 0, 256, .inl ta19)), (a26, .inl (C 0, 256, .inl ta26)), (a33, .inl (C 0, 256, .inl ta33)), (a40, .inl (C 0, 256, .inl ta40))]) (l1 := []) (b1 := wK C ad u272_14) hP hD [] [0, 1, 2, 3, 4] rfl rfl (by decide) (by decide) hk1 hFc hP1 hD1
  generalize H1 = H at hP hS ⊢
  have hP : va_P D vwCl ([(a13, .inl (C 0, 256, .inl ta13)), (a19, .inl (C 0, 256, .inl ta19)), (a26, .inl (C 0, 256, .inl ta26)), (a33, .inl (C 0, 256, .inl ta33)), (a40, .inl (C 0, 256, .inl ta40))] ++ wK C ad u272_14) H := hP
  have hD : va_D A ([(a13, .inl (C 0, 256, .inl ta13)), (a19, .inl (C 0, 256, .inl ta19)), (a26, .inl (C 0, 256, .inl ta26)), (a33, .inl (C 0, 256, .inl ta33)), (a40, .inl (C 0, 256, .inl ta40))] ++ wK C ad u272_14) := hD
  refine lv_iload_n hx hb dL_points_275 rfl (lv_at hl 2 rfl) ?_
  refine lv_icmp_eq (tgt := 281) hx hb dL_points_276 (by decide) (fun c276 => ?_) (fun c276 => ?_)
  · have hwp := hwp.1 c276
    refine lv_aload_n hx hb dL_points_281 rfl (lv_at hl 0 rfl) ?_
    have hPc : va_P D vwCl ([] ++ wK C ad u272_14) H := bd_P (lc := []) hP [] rfl
    have hDc : va_D A ([] ++ wK C ad u272_14) := bd_D (lc := []) hD [] rfl (by decide)
    have hFc : ∀ q, va_A ([] ++ wK C ad u272_14) H.size q → A q := bd_free (lc := []) hD hS hA [] rfl
    refine va_calli (va_runV (As := []) (rest := []) ⟨hx, hb, hml, hown, hts⟩ (mk_X10_points l hst D C ad u272_14 H.size _ hwp) (cwV 0 hts gc_L_127 rfl rfl rfl (by decide +kernel) ⟨Nat.le_of_ble_eq_true rfl, Nat.le_of_ble_eq_true rfl⟩) ⟨fun a U g mk q => by obtain ⟨q0, q1, qP, qK, qD, qT⟩ := q; exact ⟨q0, q1, qP, va_K.moved (u := U) (U := U.calling g mk a) (Vm.Alike.refl U.vm) qK, qD, qT.mv (U := U.calling g mk a) (State.WarmedH.refl U)⟩, va_recv hK hPc (ci := 10) (q0 := 0) rfl rfl, fun U hU hW => ⟨rfl, by rw [hU], by rw [hU]; exact hPc, va_K.moved hW.alike hK, hDc.weaken (fun _ _ _ _ => trivial), hT.call hS hFc hU hW⟩⟩ rfl rfl hl.1 rfl (lv_room (Nat.le_of_ble_eq_true rfl)) dL_points_282 ⟨Nat.le_of_ble_eq_true rfl, Nat.le_of_ble_eq_true rfl⟩) hS (fun q _ h => hFc q h) hFc (fun r282 u t H1 locs ht hvm hwp hB hz1 hk1 hS => ?_)
    obtain ⟨u282_15, rfl⟩ : ∃ z, z = u := ⟨_, rfl⟩
    obtain ⟨hP1, -, hD1⟩ := hB
    rw [ht] at hP1
    obtain ⟨hP, hD⟩ := bd_join (lr := [(a13, .inl (C 0, 256, .inl ta13)), (a19, .inl (C 0, 256, .inl ta19)), (a26, .inl (C 0, 256, .inl ta26)), (a33, .inl (C 0, 256, .inl ta33)), (a40, .inl (C 0, 256, .inl ta40))]) (l1 := []) (b1 := wK C ad u282_15) hP hD [] [0, 1, 2, 3, 4] rfl rfl (by decide) (by decide) hk1 hFc hP1 hD1
    generalize H1 = H at hP hS ⊢
    have hP : va_P D vwCl ([(a13, .inl (C 0, 256, .inl ta13)), (a19, .inl (C 0, 256, .inl ta19)), (a26, .inl (C 0, 256, .inl ta26)), (a33, .inl (C 0, 256, .inl ta33)), (a40, .inl (C 0, 256, .inl ta40))] ++ wK C ad u282_15) H := hP
    have hD : va_D A ([(a13, .inl (C 0, 256, .inl ta13)), (a19, .inl (C 0, 256, .inl ta19)), (a26, .inl (C 0, 256, .inl ta26)), (a33, .inl (C 0, 256, .inl ta33)), (a40, .inl (C 0, 256, .inl ta40))] ++ wK C ad u282_15) := hD
    refine lv_istore (lv' := [(9, .int r282), (0, .ref (ad 0)), (1, .int v7), (2, .int x2), (3, .ref a13), (4, .ref a19), (5, .ref a26), (6, .ref a33), (7, .ref a40), (8, .int x8)]) hx hb dL_points_285 hl (by decide) rfl (fun ls hl => ?_)
    refine lv_iconst (v := 0) hx hb dL_points_287 (by decide) ?_
    refine lv_istore (lv' := [(10, .int (0 : Int32)), (9, .int r282), (0, .ref (ad 0)), (1, .int v7), (2, .int x2), (3, .ref a13), (4, .ref a19), (5, .ref a26), (6, .ref a33), (7, .ref a40), (8, .int x8)]) hx hb dL_points_288 hl (by decide) rfl (fun ls hl => ?_)
    refine lv_iconst (v := 0) hx hb dL_points_290 (by decide) ?_
    refine lv_istore (lv' := [(11, .int (0 : Int32)), (10, .int (0 : Int32)), (9, .int r282), (0, .ref (ad 0)), (1, .int v7), (2, .int x2), (3, .ref a13), (4, .ref a19), (5, .ref a26), (6, .ref a33), (7, .ref a40), (8, .int x8)]) hx hb dL_points_291 hl (by decide) rfl (fun ls hl => ?_)
    refine lv_iconst (v := 0) hx hb dL_points_293 (by decide) ?_
    refine lv_istore (lv' := [(12, .int (0 : Int32)), (11, .int (0 : Int32)), (10, .int (0 : Int32)), (9, .int r282), (0, .ref (ad 0)), (1, .int v7), (2, .int x2), (3, .ref a13), (4, .ref a19), (5, .ref a26), (6, .ref a33), (7, .ref a40), (8, .int x8)]) hx hb dL_points_294 hl (by decide) rfl (fun ls hl => ?_)
    refine lv_iconst (v := 0) hx hb dL_points_296 (by decide) ?_
    refine lv_istore (lv' := [(13, .int (0 : Int32)), (12, .int (0 : Int32)), (11, .int (0 : Int32)), (10, .int (0 : Int32)), (9, .int r282), (0, .ref (ad 0)), (1, .int v7), (2, .int x2), (3, .ref a13), (4, .ref a19), (5, .ref a26), (6, .ref a33), (7, .ref a40), (8, .int x8)]) hx hb dL_points_297 hl (by decide) rfl (fun ls hl => ?_)
    refine lv_iconst (v := 0) hx hb dL_points_299 (by decide) ?_
    refine lv_istore (lv' := [(14, .int (0 : Int32)), (13, .int (0 : Int32)), (12, .int (0 : Int32)), (11, .int (0 : Int32)), (10, .int (0 : Int32)), (9, .int r282), (0, .ref (ad 0)), (1, .int v7), (2, .int x2), (3, .ref a13), (4, .ref a19), (5, .ref a26), (6, .ref a33), (7, .ref a40), (8, .int x8)]) hx hb dL_points_300 hl (by decide) rfl (fun ls hl => ?_)
    have hl9 := lv_sub (l' := [(0, .ref (ad 0)), (1, .int v7), (2, .int x2), (3, .ref a13), (4, .ref a19), (5, .ref a26), (6, .ref a33), (7, .ref a40), (8, .int x8), (9, .int r282), (10, .int (0 : Int32)), (11, .int (0 : Int32)), (12, .int (0 : Int32)), (13, .int (0 : Int32)), (14, .int (0 : Int32))]) hl [6, 7, 8, 9, 10, 11, 12, 13, 14, 5, 4, 3, 2, 1, 0] rfl
    have hP9 : va_P D vwCl ([(a13, .inl (C 0, 256, .inl ta13)), (a19, .inl (C 0, 256, .inl ta19)), (a26, .inl (C 0, 256, .inl ta26)), (a33, .inl (C 0, 256, .inl ta33)), (a40, .inl (C 0, 256, .inl ta40))] ++ wK C ad u282_15) H := bd_P (lc := [(a13, .inl (C 0, 256, .inl ta13)), (a19, .inl (C 0, 256, .inl ta19)), (a26, .inl (C 0, 256, .inl ta26)), (a33, .inl (C 0, 256, .inl ta33)), (a40, .inl (C 0, 256, .inl ta40))]) hP [0, 1, 2, 3, 4] rfl
    have hD9 : va_D A ([(a13, .inl (C 0, 256, .inl ta13)), (a19, .inl (C 0, 256, .inl ta19)), (a26, .inl (C 0, 256, .inl ta26)), (a33, .inl (C 0, 256, .inl ta33)), (a40, .inl (C 0, 256, .inl ta40))] ++ wK C ad u282_15) := bd_D (lc := [(a13, .inl (C 0, 256, .inl ta13)), (a19, .inl (C 0, 256, .inl ta19)), (a26, .inl (C 0, 256, .inl ta26)), (a33, .inl (C 0, 256, .inl ta33)), (a40, .inl (C 0, 256, .inl ta40))]) hD [0, 1, 2, 3, 4] rfl (by decide)
    obtain ⟨nn9, hwp⟩ := hwp
    refine HL302 a13 a19 a26 a33 a40 v7 x2 x8 r282 ta13 ta19 ta26 ta33 ta40 _ (fun x10 x12 d H locs ls hl hP hD hS hwp => ?_) nn9 (0 : Int32) (0 : Int32) (0 : Int32) (0 : Int32) (0 : Int32) u282_15 H locs ls hl9 hP9 hD9 hS hwp
    refine lv_aload_n hx hb dL_points_533 rfl (lv_at hl 0 rfl) ?_
    have hPc : va_P D vwCl ([] ++ wK C ad d) H := bd_P (lc := []) hP [] rfl
    have hDc : va_D A ([] ++ wK C ad d) := bd_D (lc := []) hD [] rfl (by decide)
    have hFc : ∀ q, va_A ([] ++ wK C ad d) H.size q → A q := bd_free (lc := []) hD hS hA [] rfl
    refine va_calli (va_runV (As := []) (rest := []) ⟨hx, hb, hml, hown, hts⟩ (mk_X10_points l hst D C ad d H.size _ hwp) (cwV 0 hts gc_L_127 rfl rfl rfl (by decide +kernel) ⟨Nat.le_of_ble_eq_true rfl, Nat.le_of_ble_eq_true rfl⟩) ⟨fun a U g mk q => by obtain ⟨q0, q1, qP, qK, qD, qT⟩ := q; exact ⟨q0, q1, qP, va_K.moved (u := U) (U := U.calling g mk a) (Vm.Alike.refl U.vm) qK, qD, qT.mv (U := U.calling g mk a) (State.WarmedH.refl U)⟩, va_recv hK hPc (ci := 10) (q0 := 0) rfl rfl, fun U hU hW => ⟨rfl, by rw [hU], by rw [hU]; exact hPc, va_K.moved hW.alike hK, hDc.weaken (fun _ _ _ _ => trivial), hT.call hS hFc hU hW⟩⟩ rfl rfl hl.1 rfl (lv_room (Nat.le_of_ble_eq_true rfl)) dL_points_534 ⟨Nat.le_of_ble_eq_true rfl, Nat.le_of_ble_eq_true rfl⟩) hS (fun q _ h => hFc q h) hFc (fun r534 u t H1 locs ht hvm hwp hB hz1 hk1 hS => ?_)
    obtain ⟨u534_23, rfl⟩ : ∃ z, z = u := ⟨_, rfl⟩
    obtain ⟨hP1, -, hD1⟩ := hB
    rw [ht] at hP1
    obtain ⟨hP, hD⟩ := bd_join (lr := [(a13, .inl (C 0, 256, .inl ta13)), (a19, .inl (C 0, 256, .inl ta19))]) (l1 := []) (b1 := wK C ad u534_23) hP hD [] [0, 1] rfl rfl (by decide) (by decide) hk1 hFc hP1 hD1
    generalize H1 = H at hP hS ⊢
    have hP : va_P D vwCl ([(a13, .inl (C 0, 256, .inl ta13)), (a19, .inl (C 0, 256, .inl ta19))] ++ wK C ad u534_23) H := hP
    have hD : va_D A ([(a13, .inl (C 0, 256, .inl ta13)), (a19, .inl (C 0, 256, .inl ta19))] ++ wK C ad u534_23) := hD
    refine lv_iload hx hb dL_points_537 (lv_at hl 6 rfl) ?_
    refine lv_icmp_ne (tgt := 573) hx hb dL_points_539 (by decide) (fun c539 => ?_) (fun c539 => ?_)
    · have hwp := hwp.1 c539
      refine lv_iconst (v := 0) hx hb dL_points_573 (by decide) ?_
      have hP9 : va_P D vwCl ([] ++ wK C ad u534_23) H := bd_P (lc := []) hP [] rfl
      have hD9 : va_D A ([] ++ wK C ad u534_23) := bd_D (lc := []) hD [] rfl (by decide)
      refine W.widen (k := 8) (n := 2048) (Nat.le_of_ble_eq_true rfl) (Nat.le_of_ble_eq_true rfl) ?_
      exact W.zret (v := (0 : Int32)) (ty := .boolean) hx hb hr rfl (fun t ht hW => ⟨⟨(0 : Int32), (u534_23), rfl, hwp, by rw [ht]; exact hP9, va_K.moved hW.alike hK, hD9⟩, hS.F ht⟩) hS.2.2 dL_points_574
    · have hwp := hwp.2 c539
      refine lv_aload_n hx hb dL_points_542 rfl (lv_at hl 0 rfl) ?_
      have hPc : va_P D vwCl ([] ++ wK C ad u534_23) H := bd_P (lc := []) hP [] rfl
      have hDc : va_D A ([] ++ wK C ad u534_23) := bd_D (lc := []) hD [] rfl (by decide)
      have hFc : ∀ q, va_A ([] ++ wK C ad u534_23) H.size q → A q := bd_free (lc := []) hD hS hA [] rfl
      refine va_calli (va_runV (As := []) (rest := []) ⟨hx, hb, hml, hown, hts⟩ (mk_X10_area l hst D C ad u534_23 H.size _ hwp) (cwV 0 hts gc_L_140 rfl rfl rfl (by decide +kernel) ⟨Nat.le_of_ble_eq_true rfl, Nat.le_of_ble_eq_true rfl⟩) ⟨fun a U g mk q => by obtain ⟨q0, q1, qP, qK, qD, qT⟩ := q; exact ⟨q0, q1, qP, va_K.moved (u := U) (U := U.calling g mk a) (Vm.Alike.refl U.vm) qK, qD, qT.mv (U := U.calling g mk a) (State.WarmedH.refl U)⟩, va_recv hK hPc (ci := 10) (q0 := 0) rfl rfl, fun U hU hW => ⟨rfl, by rw [hU], by rw [hU]; exact hPc, va_K.moved hW.alike hK, hDc.weaken (fun _ _ _ _ => trivial), hT.call hS hFc hU hW⟩⟩ rfl rfl hl.1 rfl (lv_room (Nat.le_of_ble_eq_true rfl)) dL_points_543 ⟨Nat.le_of_ble_eq_true rfl, Nat.le_of_ble_eq_true rfl⟩) hS (fun q _ h => hFc q h) hFc (fun r543 u t H1 locs ht hvm hwp hB hz1 hk1 hS => ?_)
      obtain ⟨u543_24, rfl⟩ : ∃ z, z = u := ⟨_, rfl⟩
      obtain ⟨hP1, -, hD1⟩ := hB
      rw [ht] at hP1
      obtain ⟨hP, hD⟩ := bd_join (lr := [(a13, .inl (C 0, 256, .inl ta13)), (a19, .inl (C 0, 256, .inl ta19))]) (l1 := []) (b1 := wK C ad u543_24) hP hD [] [0, 1] rfl rfl (by decide) (by decide) hk1 hFc hP1 hD1
      generalize H1 = H at hP hS ⊢
      have hP : va_P D vwCl ([(a13, .inl (C 0, 256, .inl ta13)), (a19, .inl (C 0, 256, .inl ta19))] ++ wK C ad u543_24) H := hP
      have hD : va_D A ([(a13, .inl (C 0, 256, .inl ta13)), (a19, .inl (C 0, 256, .inl ta19))] ++ wK C ad u543_24) := hD
      refine lv_iload hx hb dL_points_546 (lv_at hl 7 rfl) ?_
      refine lv_icmp_ne (tgt := 573) hx hb dL_points_548 (by decide) (fun c548 => ?_) (fun c548 => ?_)
      · have hwp := hwp.1 c548
        refine lv_iconst (v := 0) hx hb dL_points_573 (by decide) ?_
        have hP9 : va_P D vwCl ([] ++ wK C ad u543_24) H := bd_P (lc := []) hP [] rfl
        have hD9 : va_D A ([] ++ wK C ad u543_24) := bd_D (lc := []) hD [] rfl (by decide)
        refine W.widen (k := 8) (n := 2048) (Nat.le_of_ble_eq_true rfl) (Nat.le_of_ble_eq_true rfl) ?_
        exact W.zret (v := (0 : Int32)) (ty := .boolean) hx hb hr rfl (fun t ht hW => ⟨⟨(0 : Int32), (u543_24), rfl, hwp, by rw [ht]; exact hP9, va_K.moved hW.alike hK, hD9⟩, hS.F ht⟩) hS.2.2 dL_points_574
      · have hwp := hwp.2 c548
        refine lv_aload_n hx hb dL_points_551 rfl (lv_at hl 0 rfl) ?_
        have hPc : va_P D vwCl ([] ++ wK C ad u543_24) H := bd_P (lc := []) hP [] rfl
        have hDc : va_D A ([] ++ wK C ad u543_24) := bd_D (lc := []) hD [] rfl (by decide)
        have hFc : ∀ q, va_A ([] ++ wK C ad u543_24) H.size q → A q := bd_free (lc := []) hD hS hA [] rfl
        refine va_calld (va_runV (As := []) (rest := []) ⟨hx, hb, hml, hown, hts⟩ (mk_X10_share l hst D C ad u543_24 H.size _ hwp) (cwV 0 hts gc_L_143 rfl rfl rfl (by decide +kernel) ⟨Nat.le_of_ble_eq_true rfl, Nat.le_of_ble_eq_true rfl⟩) ⟨fun a U g mk q => by obtain ⟨q0, q1, qP, qK, qD, qT⟩ := q; exact ⟨q0, q1, qP, va_K.moved (u := U) (U := U.calling g mk a) (Vm.Alike.refl U.vm) qK, qD, qT.mv (U := U.calling g mk a) (State.WarmedH.refl U)⟩, va_recv hK hPc (ci := 10) (q0 := 0) rfl rfl, fun U hU hW => ⟨rfl, by rw [hU], by rw [hU]; exact hPc, va_K.moved hW.alike hK, hDc.weaken (fun _ _ _ _ => trivial), hT.call hS hFc hU hW⟩⟩ rfl rfl hl.1 rfl (lv_room (Nat.le_of_ble_eq_true rfl)) dL_points_552 ⟨Nat.le_of_ble_eq_true rfl, Nat.le_of_ble_eq_true rfl⟩) hS (fun q _ h => hFc q h) hFc (fun r552 u t H1 locs ht hvm hwp hB hz1 hk1 hS => ?_)
        obtain ⟨u552_25, rfl⟩ : ∃ z, z = u := ⟨_, rfl⟩
        obtain ⟨hP1, -, hD1⟩ := hB
        rw [ht] at hP1
        obtain ⟨hP, hD⟩ := bd_join (lr := [(a13, .inl (C 0, 256, .inl ta13)), (a19, .inl (C 0, 256, .inl ta19))]) (l1 := []) (b1 := wK C ad u552_25) hP hD [] [0, 1] rfl rfl (by decide) (by decide) hk1 hFc hP1 hD1
        generalize H1 = H at hP hS ⊢
        have hP : va_P D vwCl ([(a13, .inl (C 0, 256, .inl ta13)), (a19, .inl (C 0, 256, .inl ta19))] ++ wK C ad u552_25) H := hP
        have hD : va_D A ([(a13, .inl (C 0, 256, .inl ta13)), (a19, .inl (C 0, 256, .inl ta19))] ++ wK C ad u552_25) := hD
        refine lv_iload_n hx hb dL_points_555 rfl (lv_at hl 2 rfl) ?_
        refine lv_if_ne (tgt := 563) hx hb dL_points_556 (by decide) (fun c556 => ?_) (fun c556 => ?_)
        · have hwp := hwp.1 c556
          refine lv_iload hx hb dL_points_563 (lv_at hl 6 rfl) ?_
          refine lv_i2d hx hb dL_points_565 ?_
          refine lv_iload_n hx hb dL_points_566 rfl (lv_at hl 2 rfl) ?_
          refine lv_i2d hx hb dL_points_567 ?_
          obtain ⟨hnn568, hwp⟩ := hwp
          refine lv_ddiv hx hb dL_points_568 hnn568 ?_
          refine lv_dcmp hx hb dL_points_569 ?_
          refine lv_if_eq (tgt := 575) hx hb dL_points_570 (by decide) (fun c570 => ?_) (fun c570 => ?_)
          · have hwp := hwp.1 c570
            refine lv_aload_n hx hb dL_points_575 rfl (lv_at hl 0 rfl) ?_
            refine lv_aload_n hx hb dL_points_576 rfl (lv_at hl 3 rfl) ?_
            refine lv_aload hx hb dL_points_577 (lv_at hl 4 rfl) ?_
            refine lv_iload hx hb dL_points_579 (lv_at hl 5 rfl) ?_
            have hPc : va_P D vwCl ([(a13, .inl (C 0, 256, .inl ta13)), (a19, .inl (C 0, 256, .inl ta19))] ++ wK C ad u552_25) H := bd_P (lc := [(a13, .inl (C 0, 256, .inl ta13)), (a19, .inl (C 0, 256, .inl ta19))]) hP [0, 1] rfl
            have hDc : va_D A ([(a13, .inl (C 0, 256, .inl ta13)), (a19, .inl (C 0, 256, .inl ta19))] ++ wK C ad u552_25) := bd_D (lc := [(a13, .inl (C 0, 256, .inl ta13)), (a19, .inl (C 0, 256, .inl ta19))]) hD [0, 1] rfl (by decide)
            have hFc : ∀ q, va_A ([(a13, .inl (C 0, 256, .inl ta13)), (a19, .inl (C 0, 256, .inl ta19))] ++ wK C ad u552_25) H.size q → A q := bd_free (lc := [(a13, .inl (C 0, 256, .inl ta13)), (a19, .inl (C 0, 256, .inl ta19))]) hD hS hA [0, 1] rfl
            refine va_calli (va_runS (As := [.ref (ad 0), .ref a13, .ref a19, .int x8]) (rest := []) ⟨hx, hb, hml, hown, hts⟩ (met_L_layers l hst D C a13 a19 ad x8 ta13 ta19 u552_25 H.size _ hwp) (va_cwS 4 hts gc_L_147 rfl rfl rfl (by decide +kernel) ⟨Nat.le_of_ble_eq_true rfl, Nat.le_of_ble_eq_true rfl⟩) ⟨fun a U g mk q => by obtain ⟨q0, q1, qP, qK, qD, qT⟩ := q; exact ⟨q0, q1, qP, va_K.moved (u := U) (U := U.calling g mk a) (Vm.Alike.refl U.vm) qK, qD, qT.mv (U := U.calling g mk a) (State.WarmedH.refl U)⟩, fun U hU hW => ⟨rfl, by rw [hU], by rw [hU]; exact hPc, va_K.moved hW.alike hK, hDc.weaken (fun _ _ _ _ => trivial), hT.call hS hFc hU hW⟩⟩ rfl rfl hl.1 rfl (lv_room (Nat.le_of_ble_eq_true rfl)) dL_points_581 ⟨Nat.le_of_ble_eq_true rfl, Nat.le_of_ble_eq_true rfl⟩) hS (fun q _ h => hFc q h) hFc (fun r581 u t H1 locs ht hvm hwp hB hz1 hk1 hS => ?_)
            obtain ⟨u581_26, rfl⟩ : ∃ z, z = u := ⟨_, rfl⟩
            obtain ⟨hP1, -, hD1⟩ := hB
            rw [ht] at hP1
            obtain ⟨hP, hD⟩ := bd_join (lr := []) (l1 := [(a13, .inl (C 0, 256, .inl ta13)), (a19, .inl (C 0, 256, .inl ta19))]) (b1 := wK C ad u581_26) hP hD [0, 1] [] rfl rfl (by decide) (by decide) hk1 hFc hP1 hD1
            generalize H1 = H at hP hS ⊢
            have hP : va_P D vwCl ([(a13, .inl (C 0, 256, .inl ta13)), (a19, .inl (C 0, 256, .inl ta19))] ++ wK C ad u581_26) H := hP
            have hD : va_D A ([(a13, .inl (C 0, 256, .inl ta13)), (a19, .inl (C 0, 256, .inl ta19))] ++ wK C ad u581_26) := hD
            refine lv_if_eq (tgt := 599) hx hb dL_points_584 (by decide) (fun c584 => ?_) (fun c584 => ?_)
            · have hwp := hwp.1 c584
              refine lv_iconst (v := 0) hx hb dL_points_599 (by decide) ?_
              have hP9 : va_P D vwCl ([] ++ wK C ad u581_26) H := bd_P (lc := []) hP [] rfl
              have hD9 : va_D A ([] ++ wK C ad u581_26) := bd_D (lc := []) hD [] rfl (by decide)
              refine W.widen (k := 8) (n := 2048) (Nat.le_of_ble_eq_true rfl) (Nat.le_of_ble_eq_true rfl) ?_
              exact W.zret (v := (0 : Int32)) (ty := .boolean) hx hb hr rfl (fun t ht hW => ⟨⟨(0 : Int32), (u581_26), rfl, hwp, by rw [ht]; exact hP9, va_K.moved hW.alike hK, hD9⟩, hS.F ht⟩) hS.2.2 dL_points_600
            · have hwp := hwp.2 c584
              refine lv_aload_n hx hb dL_points_587 rfl (lv_at hl 0 rfl) ?_
              refine lv_iload_n hx hb dL_points_588 rfl (lv_at hl 1 rfl) ?_
              have hPc : va_P D vwCl ([] ++ wK C ad u581_26) H := bd_P (lc := []) hP [] rfl
              have hDc : va_D A ([] ++ wK C ad u581_26) := bd_D (lc := []) hD [] rfl (by decide)
              have hFc : ∀ q, va_A ([] ++ wK C ad u581_26) H.size q → A q := bd_free (lc := []) hD hS hA [] rfl
              refine va_calli (va_runS (As := [.ref (ad 0), .int v7]) (rest := []) ⟨hx, hb, hml, hown, hts⟩ (met_L_asks l hst D C ad v7 u581_26 H.size _ hwp) (va_cwS 2 hts gc_L_151 rfl rfl rfl (by decide +kernel) ⟨Nat.le_of_ble_eq_true rfl, Nat.le_of_ble_eq_true rfl⟩) ⟨fun a U g mk q => by obtain ⟨q0, q1, qP, qK, qD, qT⟩ := q; exact ⟨q0, q1, qP, va_K.moved (u := U) (U := U.calling g mk a) (Vm.Alike.refl U.vm) qK, qD, qT.mv (U := U.calling g mk a) (State.WarmedH.refl U)⟩, fun U hU hW => ⟨rfl, by rw [hU], by rw [hU]; exact hPc, va_K.moved hW.alike hK, hDc.weaken (fun _ _ _ _ => trivial), hT.call hS hFc hU hW⟩⟩ rfl rfl hl.1 rfl (lv_room (Nat.le_of_ble_eq_true rfl)) dL_points_589 ⟨Nat.le_of_ble_eq_true rfl, Nat.le_of_ble_eq_true rfl⟩) hS (fun q _ h => hFc q h) hFc (fun r589 u t H1 locs ht hvm hwp hB hz1 hk1 hS => ?_)
              obtain ⟨u589_27, rfl⟩ : ∃ z, z = u := ⟨_, rfl⟩
              obtain ⟨hP1, -, hD1⟩ := hB
              rw [ht] at hP1
              obtain ⟨hP, hD⟩ := bd_join (lr := [(a13, .inl (C 0, 256, .inl ta13)), (a19, .inl (C 0, 256, .inl ta19))]) (l1 := []) (b1 := wK C ad u589_27) hP hD [] [0, 1] rfl rfl (by decide) (by decide) hk1 hFc hP1 hD1
              generalize H1 = H at hP hS ⊢
              have hP : va_P D vwCl ([(a13, .inl (C 0, 256, .inl ta13)), (a19, .inl (C 0, 256, .inl ta19))] ++ wK C ad u589_27) H := hP
              have hD : va_D A ([(a13, .inl (C 0, 256, .inl ta13)), (a19, .inl (C 0, 256, .inl ta19))] ++ wK C ad u589_27) := hD
              refine lv_if_eq (tgt := 599) hx hb dL_points_592 (by decide) (fun c592 => ?_) (fun c592 => ?_)
              · have hwp := hwp.1 c592
                refine lv_iconst (v := 0) hx hb dL_points_599 (by decide) ?_
                have hP9 : va_P D vwCl ([] ++ wK C ad u589_27) H := bd_P (lc := []) hP [] rfl
                have hD9 : va_D A ([] ++ wK C ad u589_27) := bd_D (lc := []) hD [] rfl (by decide)
                exact W.zret (v := (0 : Int32)) (ty := .boolean) hx hb hr rfl (fun t ht hW => ⟨⟨(0 : Int32), (u589_27), rfl, hwp, by rw [ht]; exact hP9, va_K.moved hW.alike hK, hD9⟩, hS.F ht⟩) hS.2.2 dL_points_600
              · have hwp := hwp.2 c592
                refine lv_iconst (v := 1) hx hb dL_points_595 (by decide) ?_
                refine lv_goto (tgt := 600) hx hb dL_points_596 (by decide) ?_
                have hP9 : va_P D vwCl ([] ++ wK C ad u589_27) H := bd_P (lc := []) hP [] rfl
                have hD9 : va_D A ([] ++ wK C ad u589_27) := bd_D (lc := []) hD [] rfl (by decide)
                exact W.zret (v := (1 : Int32)) (ty := .boolean) hx hb hr rfl (fun t ht hW => ⟨⟨(1 : Int32), (u589_27), rfl, hwp, by rw [ht]; exact hP9, va_K.moved hW.alike hK, hD9⟩, hS.F ht⟩) hS.2.2 dL_points_600
          · have hwp := hwp.2 c570
            refine lv_iconst (v := 0) hx hb dL_points_573 (by decide) ?_
            have hP9 : va_P D vwCl ([] ++ wK C ad u552_25) H := bd_P (lc := []) hP [] rfl
            have hD9 : va_D A ([] ++ wK C ad u552_25) := bd_D (lc := []) hD [] rfl (by decide)
            refine W.widen (k := 8) (n := 2048) (Nat.le_of_ble_eq_true rfl) (Nat.le_of_ble_eq_true rfl) ?_
            exact W.zret (v := (0 : Int32)) (ty := .boolean) hx hb hr rfl (fun t ht hW => ⟨⟨(0 : Int32), (u552_25), rfl, hwp, by rw [ht]; exact hP9, va_K.moved hW.alike hK, hD9⟩, hS.F ht⟩) hS.2.2 dL_points_574
        · have hwp := hwp.2 c556
          refine lv_dconst0 hx hb dL_points_559 ?_
          refine lv_goto (tgt := 569) hx hb dL_points_560 (by decide) ?_
          refine lv_dcmp hx hb dL_points_569 ?_
          refine lv_if_eq (tgt := 575) hx hb dL_points_570 (by decide) (fun c570 => ?_) (fun c570 => ?_)
          · have hwp := hwp.1 c570
            refine lv_aload_n hx hb dL_points_575 rfl (lv_at hl 0 rfl) ?_
            refine lv_aload_n hx hb dL_points_576 rfl (lv_at hl 3 rfl) ?_
            refine lv_aload hx hb dL_points_577 (lv_at hl 4 rfl) ?_
            refine lv_iload hx hb dL_points_579 (lv_at hl 5 rfl) ?_
            have hPc : va_P D vwCl ([(a13, .inl (C 0, 256, .inl ta13)), (a19, .inl (C 0, 256, .inl ta19))] ++ wK C ad u552_25) H := bd_P (lc := [(a13, .inl (C 0, 256, .inl ta13)), (a19, .inl (C 0, 256, .inl ta19))]) hP [0, 1] rfl
            have hDc : va_D A ([(a13, .inl (C 0, 256, .inl ta13)), (a19, .inl (C 0, 256, .inl ta19))] ++ wK C ad u552_25) := bd_D (lc := [(a13, .inl (C 0, 256, .inl ta13)), (a19, .inl (C 0, 256, .inl ta19))]) hD [0, 1] rfl (by decide)
            have hFc : ∀ q, va_A ([(a13, .inl (C 0, 256, .inl ta13)), (a19, .inl (C 0, 256, .inl ta19))] ++ wK C ad u552_25) H.size q → A q := bd_free (lc := [(a13, .inl (C 0, 256, .inl ta13)), (a19, .inl (C 0, 256, .inl ta19))]) hD hS hA [0, 1] rfl
            refine va_calli (va_runS (As := [.ref (ad 0), .ref a13, .ref a19, .int x8]) (rest := []) ⟨hx, hb, hml, hown, hts⟩ (met_L_layers l hst D C a13 a19 ad x8 ta13 ta19 u552_25 H.size _ hwp) (va_cwS 4 hts gc_L_147 rfl rfl rfl (by decide +kernel) ⟨Nat.le_of_ble_eq_true rfl, Nat.le_of_ble_eq_true rfl⟩) ⟨fun a U g mk q => by obtain ⟨q0, q1, qP, qK, qD, qT⟩ := q; exact ⟨q0, q1, qP, va_K.moved (u := U) (U := U.calling g mk a) (Vm.Alike.refl U.vm) qK, qD, qT.mv (U := U.calling g mk a) (State.WarmedH.refl U)⟩, fun U hU hW => ⟨rfl, by rw [hU], by rw [hU]; exact hPc, va_K.moved hW.alike hK, hDc.weaken (fun _ _ _ _ => trivial), hT.call hS hFc hU hW⟩⟩ rfl rfl hl.1 rfl (lv_room (Nat.le_of_ble_eq_true rfl)) dL_points_581 ⟨Nat.le_of_ble_eq_true rfl, Nat.le_of_ble_eq_true rfl⟩) hS (fun q _ h => hFc q h) hFc (fun r581 u t H1 locs ht hvm hwp hB hz1 hk1 hS => ?_)
            obtain ⟨u581_28, rfl⟩ : ∃ z, z = u := ⟨_, rfl⟩
            obtain ⟨hP1, -, hD1⟩ := hB
            rw [ht] at hP1
            obtain ⟨hP, hD⟩ := bd_join (lr := []) (l1 := [(a13, .inl (C 0, 256, .inl ta13)), (a19, .inl (C 0, 256, .inl ta19))]) (b1 := wK C ad u581_28) hP hD [0, 1] [] rfl rfl (by decide) (by decide) hk1 hFc hP1 hD1
            generalize H1 = H at hP hS ⊢
            have hP : va_P D vwCl ([(a13, .inl (C 0, 256, .inl ta13)), (a19, .inl (C 0, 256, .inl ta19))] ++ wK C ad u581_28) H := hP
            have hD : va_D A ([(a13, .inl (C 0, 256, .inl ta13)), (a19, .inl (C 0, 256, .inl ta19))] ++ wK C ad u581_28) := hD
            refine lv_if_eq (tgt := 599) hx hb dL_points_584 (by decide) (fun c584 => ?_) (fun c584 => ?_)
            · have hwp := hwp.1 c584
              refine lv_iconst (v := 0) hx hb dL_points_599 (by decide) ?_
              have hP9 : va_P D vwCl ([] ++ wK C ad u581_28) H := bd_P (lc := []) hP [] rfl
              have hD9 : va_D A ([] ++ wK C ad u581_28) := bd_D (lc := []) hD [] rfl (by decide)
              refine W.widen (k := 8) (n := 2048) (Nat.le_of_ble_eq_true rfl) (Nat.le_of_ble_eq_true rfl) ?_
              exact W.zret (v := (0 : Int32)) (ty := .boolean) hx hb hr rfl (fun t ht hW => ⟨⟨(0 : Int32), (u581_28), rfl, hwp, by rw [ht]; exact hP9, va_K.moved hW.alike hK, hD9⟩, hS.F ht⟩) hS.2.2 dL_points_600
            · have hwp := hwp.2 c584
              refine lv_aload_n hx hb dL_points_587 rfl (lv_at hl 0 rfl) ?_
              refine lv_iload_n hx hb dL_points_588 rfl (lv_at hl 1 rfl) ?_
              have hPc : va_P D vwCl ([] ++ wK C ad u581_28) H := bd_P (lc := []) hP [] rfl
              have hDc : va_D A ([] ++ wK C ad u581_28) := bd_D (lc := []) hD [] rfl (by decide)
              have hFc : ∀ q, va_A ([] ++ wK C ad u581_28) H.size q → A q := bd_free (lc := []) hD hS hA [] rfl
              refine va_calli (va_runS (As := [.ref (ad 0), .int v7]) (rest := []) ⟨hx, hb, hml, hown, hts⟩ (met_L_asks l hst D C ad v7 u581_28 H.size _ hwp) (va_cwS 2 hts gc_L_151 rfl rfl rfl (by decide +kernel) ⟨Nat.le_of_ble_eq_true rfl, Nat.le_of_ble_eq_true rfl⟩) ⟨fun a U g mk q => by obtain ⟨q0, q1, qP, qK, qD, qT⟩ := q; exact ⟨q0, q1, qP, va_K.moved (u := U) (U := U.calling g mk a) (Vm.Alike.refl U.vm) qK, qD, qT.mv (U := U.calling g mk a) (State.WarmedH.refl U)⟩, fun U hU hW => ⟨rfl, by rw [hU], by rw [hU]; exact hPc, va_K.moved hW.alike hK, hDc.weaken (fun _ _ _ _ => trivial), hT.call hS hFc hU hW⟩⟩ rfl rfl hl.1 rfl (lv_room (Nat.le_of_ble_eq_true rfl)) dL_points_589 ⟨Nat.le_of_ble_eq_true rfl, Nat.le_of_ble_eq_true rfl⟩) hS (fun q _ h => hFc q h) hFc (fun r589 u t H1 locs ht hvm hwp hB hz1 hk1 hS => ?_)
              obtain ⟨u589_29, rfl⟩ : ∃ z, z = u := ⟨_, rfl⟩
              obtain ⟨hP1, -, hD1⟩ := hB
              rw [ht] at hP1
              obtain ⟨hP, hD⟩ := bd_join (lr := [(a13, .inl (C 0, 256, .inl ta13)), (a19, .inl (C 0, 256, .inl ta19))]) (l1 := []) (b1 := wK C ad u589_29) hP hD [] [0, 1] rfl rfl (by decide) (by decide) hk1 hFc hP1 hD1
              generalize H1 = H at hP hS ⊢
              have hP : va_P D vwCl ([(a13, .inl (C 0, 256, .inl ta13)), (a19, .inl (C 0, 256, .inl ta19))] ++ wK C ad u589_29) H := hP
              have hD : va_D A ([(a13, .inl (C 0, 256, .inl ta13)), (a19, .inl (C 0, 256, .inl ta19))] ++ wK C ad u589_29) := hD
              refine lv_if_eq (tgt := 599) hx hb dL_points_592 (by decide) (fun c592 => ?_) (fun c592 => ?_)
              · have hwp := hwp.1 c592
                refine lv_iconst (v := 0) hx hb dL_points_599 (by decide) ?_
                have hP9 : va_P D vwCl ([] ++ wK C ad u589_29) H := bd_P (lc := []) hP [] rfl
                have hD9 : va_D A ([] ++ wK C ad u589_29) := bd_D (lc := []) hD [] rfl (by decide)
                exact W.zret (v := (0 : Int32)) (ty := .boolean) hx hb hr rfl (fun t ht hW => ⟨⟨(0 : Int32), (u589_29), rfl, hwp, by rw [ht]; exact hP9, va_K.moved hW.alike hK, hD9⟩, hS.F ht⟩) hS.2.2 dL_points_600
              · have hwp := hwp.2 c592
                refine lv_iconst (v := 1) hx hb dL_points_595 (by decide) ?_
                refine lv_goto (tgt := 600) hx hb dL_points_596 (by decide) ?_
                have hP9 : va_P D vwCl ([] ++ wK C ad u589_29) H := bd_P (lc := []) hP [] rfl
                have hD9 : va_D A ([] ++ wK C ad u589_29) := bd_D (lc := []) hD [] rfl (by decide)
                exact W.zret (v := (1 : Int32)) (ty := .boolean) hx hb hr rfl (fun t ht hW => ⟨⟨(1 : Int32), (u589_29), rfl, hwp, by rw [ht]; exact hP9, va_K.moved hW.alike hK, hD9⟩, hS.F ht⟩) hS.2.2 dL_points_600
          · have hwp := hwp.2 c570
            refine lv_iconst (v := 0) hx hb dL_points_573 (by decide) ?_
            have hP9 : va_P D vwCl ([] ++ wK C ad u552_25) H := bd_P (lc := []) hP [] rfl
            have hD9 : va_D A ([] ++ wK C ad u552_25) := bd_D (lc := []) hD [] rfl (by decide)
            refine W.widen (k := 8) (n := 2048) (Nat.le_of_ble_eq_true rfl) (Nat.le_of_ble_eq_true rfl) ?_
            exact W.zret (v := (0 : Int32)) (ty := .boolean) hx hb hr rfl (fun t ht hW => ⟨⟨(0 : Int32), (u552_25), rfl, hwp, by rw [ht]; exact hP9, va_K.moved hW.alike hK, hD9⟩, hS.F ht⟩) hS.2.2 dL_points_574
  · have hwp := hwp.2 c276
    refine lv_iconst (v := 0) hx hb dL_points_279 (by decide) ?_
    have hP9 : va_P D vwCl ([] ++ wK C ad u272_14) H := bd_P (lc := []) hP [] rfl
    have hD9 : va_D A ([] ++ wK C ad u272_14) := bd_D (lc := []) hD [] rfl (by decide)
    refine W.widen (k := 8) (n := 2048) (Nat.le_of_ble_eq_true rfl) (Nat.le_of_ble_eq_true rfl) ?_
    exact W.zret (v := (0 : Int32)) (ty := .boolean) hx hb hr rfl (fun t ht hW => ⟨⟨(0 : Int32), (u272_14), rfl, hwp, by rw [ht]; exact hP9, va_K.moved hW.alike hK, hD9⟩, hS.F ht⟩) hS.2.2 dL_points_280

