abbrev ws_L_beats : List Cond := .code yL_beats cL_beats 4 (some .boolean) :: WALL
abbrev rm_L_beats : Room := { frames := 0, cells := 0, slots := 0, locals := 0 }
abbrev w_L_beats (C : Nat → ClassId) : va_W := []
abbrev q_L_beats (D : va_G) (C : Nat → ClassId) (Q : Int32 → Prop) (A : Nat → Prop) : Array Value → State → Outcome → State → Prop := va_Qi (fun (r : Int32) (u : Unit) => Q r) (fun (u : Unit) (t : State) => va_P D vwCl (w_L_beats C ) t.heap ∧ va_K D vwCl (tyL C) t ∧ va_D A (w_L_beats C )) A
set_option maxHeartbeats 4000000 in
set_option maxRecDepth 100000 in
theorem met_L_beats (l : Launch) (hst : l.stackTraces = false) (D : va_G) (C : Nat → ClassId) (p0 : Int32) (p1 : Int32) (p2 : Int32) (p3 : Int32) (sz : Nat) (Q : Int32 → Prop) (hwp : wp_L_beats p0 p1 p2 p3 Q) : Met l yL_beats ws_L_beats rm_L_beats (va_Pc [.int p0, .int p1, .int p2, .int p3] (fun U => U.heap.size = sz ∧ va_P D vwCl (w_L_beats C ) U.heap ∧ va_K D vwCl (tyL C) U ∧ va_D (fun _ => True) (w_L_beats C ) ∧ TX (va_A (w_L_beats C ) sz) U U.heap)) (q_L_beats D C  Q (va_A (w_L_beats C ) sz)) 0 0 (va_A (w_L_beats C ) sz) := by
  refine Met.ofW (cc := cL_beats) (maxL := 4) (ret := (some .boolean)) (by decide) rfl ?_
  intro p e s m args below meth c s₁ B hml hv
  obtain ⟨rfl, hsz, hP, hK, hD0, hT⟩ := hv
  have hx := B.exec
  have hb := B.bytes
  have hr := B.returns
  have hts : ∀ w ∈ WALL, w.before _ s = true := fun w h => atoms_spec (ws := ws_L_beats) B.pre w (List.mem_cons_of_mem _ h)
  have hown : s.vm.findClass RL = some m.cls := findClass_of_methodNamed B.named
  have hlocks := B.notSynchronized
  subst hsz
  have hD := hD0.self (sz := s.heap.size)
  generalize hAe : va_A (w_L_beats C ) s.heap.size = A at hD ⊢ hT
  have hA : ∀ q : Nat, s.heap.size ≤ q → A q := fun q h => by rw [← hAe]; exact Or.inr h
  have hS : va_S A s.heap s.heap [] := va_S.rf
  have hl := lv_entry ([.int p0, .int p1, .int p2, .int p3]) (n := 4) (Nat.le_of_ble_eq_true rfl)
  rw [lg_entry_eq]
  generalize (lg_sl ([.int p0, .int p1, .int p2, .int p3]) ++ List.replicate (4 - (lg_sl ([.int p0, .int p1, .int p2, .int p3])).length) Slot.unset).toArray = ls at hl ⊢
  have hl : lv_has ls 4 [(0, .int p0), (1, .int p1), (2, .int p2), (3, .int p3)] := hl
  unfold wp_L_beats at hwp
  obtain ⟨H, hH⟩ : ∃ H, H = s.heap := ⟨_, rfl⟩
  obtain ⟨locs, hlo⟩ : ∃ z : List Loc, z = [] := ⟨_, rfl⟩
  have hP : va_P D vwCl [] H := by rw [hH]; exact hP
  have hD : va_D A [] := hD
  have hS : va_S A s.heap H locs := by rw [hH, hlo]; exact hS
  suffices K : W p l e (headSpec ws_L_beats rm_L_beats).room s m ([.int p0, .int p1, .int p2, .int p3] : List Value).toArray below meth c H locs 0 0 (MQ below (q_L_beats D C Q A) ([.int p0, .int p1, .int p2, .int p3] : List Value).toArray s 0 0 A) (F0 m 0 ls []) from by rw [hH, hlo] at K; exact K
  refine lv_iload_n hx hb dL_beats_0 rfl (lv_at hl 0 rfl) ?_
  refine lv_iload_n hx hb dL_beats_1 rfl (lv_at hl 2 rfl) ?_
  refine lv_icmp_lt (tgt := 24) hx hb dL_beats_2 (by decide) (fun c2 => ?_) (fun c2 => ?_)
  · have hwp := hwp.1 c2
    refine lv_iconst (v := 0) hx hb dL_beats_24 (by decide) ?_
    have hP9 := hP.sub (ws' := []) [] rfl
    have hD9 := hD.sub (ws' := []) [] (by decide) rfl
    exact W.zret (v := (0 : Int32)) (ty := .boolean) hx hb hr rfl (fun t ht hW => ⟨⟨(0 : Int32), (), rfl, hwp, by rw [ht]; exact hP9, va_K.moved hW.alike hK, hD9⟩, hS.F ht⟩) hS.2.2 dL_beats_25
  · have hwp := hwp.2 c2
    refine lv_iload_n hx hb dL_beats_5 rfl (lv_at hl 1 rfl) ?_
    refine lv_iload_n hx hb dL_beats_6 rfl (lv_at hl 3 rfl) ?_
    refine lv_icmp_lt (tgt := 24) hx hb dL_beats_7 (by decide) (fun c7 => ?_) (fun c7 => ?_)
    · have hwp := hwp.1 c7
      refine lv_iconst (v := 0) hx hb dL_beats_24 (by decide) ?_
      have hP9 := hP.sub (ws' := []) [] rfl
      have hD9 := hD.sub (ws' := []) [] (by decide) rfl
      exact W.zret (v := (0 : Int32)) (ty := .boolean) hx hb hr rfl (fun t ht hW => ⟨⟨(0 : Int32), (), rfl, hwp, by rw [ht]; exact hP9, va_K.moved hW.alike hK, hD9⟩, hS.F ht⟩) hS.2.2 dL_beats_25
    · have hwp := hwp.2 c7
      refine lv_iload_n hx hb dL_beats_10 rfl (lv_at hl 0 rfl) ?_
      refine lv_iload_n hx hb dL_beats_11 rfl (lv_at hl 2 rfl) ?_
      refine lv_icmp_gt (tgt := 20) hx hb dL_beats_12 (by decide) (fun c12 => ?_) (fun c12 => ?_)
      · have hwp := hwp.1 c12
        refine lv_iconst (v := 1) hx hb dL_beats_20 (by decide) ?_
        refine lv_goto (tgt := 25) hx hb dL_beats_21 (by decide) ?_
        have hP9 := hP.sub (ws' := []) [] rfl
        have hD9 := hD.sub (ws' := []) [] (by decide) rfl
        exact W.zret (v := (1 : Int32)) (ty := .boolean) hx hb hr rfl (fun t ht hW => ⟨⟨(1 : Int32), (), rfl, hwp, by rw [ht]; exact hP9, va_K.moved hW.alike hK, hD9⟩, hS.F ht⟩) hS.2.2 dL_beats_25
      · have hwp := hwp.2 c12
        refine lv_iload_n hx hb dL_beats_15 rfl (lv_at hl 1 rfl) ?_
        refine lv_iload_n hx hb dL_beats_16 rfl (lv_at hl 3 rfl) ?_
        refine lv_icmp_le (tgt := 24) hx hb dL_beats_17 (by decide) (fun c17 => ?_) (fun c17 => ?_)
        · have hwp := hwp.1 c17
          refine lv_iconst (v := 0) hx hb dL_beats_24 (by decide) ?_
          have hP9 := hP.sub (ws' := []) [] rfl
          have hD9 := hD.sub (ws' := []) [] (by decide) rfl
          exact W.zret (v := (0 : Int32)) (ty := .boolean) hx hb hr rfl (fun t ht hW => ⟨⟨(0 : Int32), (), rfl, hwp, by rw [ht]; exact hP9, va_K.moved hW.alike hK, hD9⟩, hS.F ht⟩) hS.2.2 dL_beats_25
        · have hwp := hwp.2 c17
          refine lv_iconst (v := 1) hx hb dL_beats_20 (by decide) ?_
          refine lv_goto (tgt := 25) hx hb dL_beats_21 (by decide) ?_
          have hP9 := hP.sub (ws' := []) [] rfl
          have hD9 := hD.sub (ws' := []) [] (by decide) rfl
          exact W.zret (v := (1 : Int32)) (ty := .boolean) hx hb hr rfl (fun t ht hW => ⟨⟨(1 : Int32), (), rfl, hwp, by rw [ht]; exact hP9, va_K.moved hW.alike hK, hD9⟩, hS.F ht⟩) hS.2.2 dL_beats_25

