abbrev ws_L_draw : List Cond := .code yL_draw cL_draw 3 (some .int) :: WALL
abbrev rm_L_draw : Room := { frames := 0, cells := 0, slots := 0, locals := 0 }
abbrev w_L_draw (C : Nat → ClassId) (q0 : Nat) (sn0 : Nat) (sx0 : Nat → Int32) : va_W := []
abbrev q_L_draw (D : va_G) (C : Nat → ClassId) (q0 : Nat) (sn0 : Nat) (sx0 : Nat → Int32) (Q : Int32 → Prop) (A : Nat → Prop) : Array Value → State → Outcome → State → Prop := va_Qi (fun (r : Int32) (u : Unit) => Q r) (fun (u : Unit) (t : State) => va_P D vwCl (w_L_draw C q0 sn0 sx0) t.heap ∧ va_K D vwCl (tyL C) t ∧ va_D A (w_L_draw C q0 sn0 sx0)) A
set_option maxHeartbeats 4000000 in
set_option maxRecDepth 100000 in
theorem met_L_draw (l : Launch) (hst : l.stackTraces = false) (D : va_G) (C : Nat → ClassId) (q0 : Nat) (p1 : Int32) (p2 : Int32) (sn0 : Nat) (sx0 : Nat → Int32) (sz : Nat) (Q : Int32 → Prop) (hwp : wp_L_draw p1 p2 sn0 sx0 Q) : Met l yL_draw ws_L_draw rm_L_draw (va_Pc [.ref q0, .int p1, .int p2] (fun U => U.heap.size = sz ∧ va_P D vwCl (w_L_draw C q0 sn0 sx0) U.heap ∧ va_K D vwCl (tyL C) U ∧ va_D (fun _ => True) (w_L_draw C q0 sn0 sx0) ∧ TX (va_A (w_L_draw C q0 sn0 sx0) sz) U U.heap ∧ ScrC sn0 sx0 q0 (va_A (w_L_draw C q0 sn0 sx0) sz) U U.heap)) (q_L_draw D C q0 sn0 sx0 Q (va_A (w_L_draw C q0 sn0 sx0) sz)) 0 0 (va_A (w_L_draw C q0 sn0 sx0) sz) := by
  refine Met.ofW (cc := cL_draw) (maxL := 3) (ret := (some .int)) (by decide) rfl ?_
  intro p e s m args below meth c s₁ B hml hv
  obtain ⟨rfl, hsz, hP, hK, hD0, hT, hs_q0⟩ := hv
  have hx := B.exec
  have hb := B.bytes
  have hr := B.returns
  have hts : ∀ w ∈ WALL, w.before _ s = true := fun w h => atoms_spec (ws := ws_L_draw) B.pre w (List.mem_cons_of_mem _ h)
  have hown : s.vm.findClass RL = some m.cls := findClass_of_methodNamed B.named
  have hlocks := B.notSynchronized
  subst hsz
  have hD := hD0.self (sz := s.heap.size)
  generalize hAe : va_A (w_L_draw C q0 sn0 sx0) s.heap.size = A at hD ⊢ hT hs_q0
  have hA : ∀ q : Nat, s.heap.size ≤ q → A q := fun q h => by rw [← hAe]; exact Or.inr h
  have hS : va_S A s.heap s.heap [] := va_S.rf
  have hl := lv_entry ([.ref q0, .int p1, .int p2]) (n := 3) (Nat.le_of_ble_eq_true rfl)
  rw [lg_entry_eq]
  generalize (lg_sl ([.ref q0, .int p1, .int p2]) ++ List.replicate (3 - (lg_sl ([.ref q0, .int p1, .int p2])).length) Slot.unset).toArray = ls at hl ⊢
  have hl : lv_has ls 3 [(0, .ref q0), (1, .int p1), (2, .int p2)] := hl
  unfold wp_L_draw at hwp
  obtain ⟨H, hH⟩ : ∃ H, H = s.heap := ⟨_, rfl⟩
  obtain ⟨locs, hlo⟩ : ∃ z : List Loc, z = [] := ⟨_, rfl⟩
  have hP : va_P D vwCl [] H := by rw [hH]; exact hP
  have hD : va_D A [] := hD
  have hS : va_S A s.heap H locs := by rw [hH, hlo]; exact hS
  suffices K : W p l e (headSpec ws_L_draw rm_L_draw).room s m ([.ref q0, .int p1, .int p2] : List Value).toArray below meth c H locs 0 0 (MQ below (q_L_draw D C q0 sn0 sx0 Q A) ([.ref q0, .int p1, .int p2] : List Value).toArray s 0 0 A) (F0 m 0 ls []) from by rw [hH, hlo] at K; exact K
  refine lv_iload_n hx hb dL_draw_0 rfl (lv_at hl 1 rfl) ?_
  refine lv_aload_n hx hb dL_draw_1 rfl (lv_at hl 0 rfl) ?_
  refine va_slen hx hb hs_q0.1 hs_q0.2.1 hs_q0.2.2 hS dL_draw_2 ?_
  refine lv_icmp_ge (tgt := 12) hx hb dL_draw_3 (by decide) (fun c3 => ?_) (fun c3 => ?_)
  · have hwp := hwp.1 c3
    refine lv_iconst (v := 0) hx hb dL_draw_12 (by decide) ?_
    refine lv_ldc (own := RL) (index := 7) (v := 2147483647) hx hb hown (hts (.constant RL 7 (2147483647)) wd_565) dL_draw_13 ?_
    refine lv_iand hx hb dL_draw_15 ?_
    refine lv_iload_n hx hb dL_draw_16 rfl (lv_at hl 2 rfl) ?_
    obtain ⟨hz17, hwp⟩ := hwp
    refine lv_irem hx hb dL_draw_17 hz17 ?_
    have hP9 := hP.sub (ws' := []) [] rfl
    have hD9 := hD.sub (ws' := []) [] (by decide) rfl
    exact W.iret (v := ((0 : Int32) &&& (2147483647 : Int32)) - ((0 : Int32) &&& (2147483647 : Int32)) / p2 * p2) hx hb hr (fun t ht hW => ⟨⟨((0 : Int32) &&& (2147483647 : Int32)) - ((0 : Int32) &&& (2147483647 : Int32)) / p2 * p2, (), rfl, hwp, by rw [ht]; exact hP9, va_K.moved hW.alike hK, hD9⟩, hS.F ht⟩) hS.2.2 dL_draw_18
  · have hwp := hwp.2 c3
    refine lv_aload_n hx hb dL_draw_6 rfl (lv_at hl 0 rfl) ?_
    refine lv_iload_n hx hb dL_draw_7 rfl (lv_at hl 1 rfl) ?_
    obtain ⟨hi8, hwp⟩ := hwp
    refine va_sld hx hb hs_q0.1 hs_q0.2.1 hs_q0.2.2 hS hi8 dL_draw_8 ?_
    refine lv_goto (tgt := 13) hx hb dL_draw_9 (by decide) ?_
    refine lv_ldc (own := RL) (index := 7) (v := 2147483647) hx hb hown (hts (.constant RL 7 (2147483647)) wd_565) dL_draw_13 ?_
    refine lv_iand hx hb dL_draw_15 ?_
    refine lv_iload_n hx hb dL_draw_16 rfl (lv_at hl 2 rfl) ?_
    obtain ⟨hz17, hwp⟩ := hwp
    refine lv_irem hx hb dL_draw_17 hz17 ?_
    have hP9 := hP.sub (ws' := []) [] rfl
    have hD9 := hD.sub (ws' := []) [] (by decide) rfl
    exact W.iret (v := ((sx0 p1.toNatClampNeg) &&& (2147483647 : Int32)) - ((sx0 p1.toNatClampNeg) &&& (2147483647 : Int32)) / p2 * p2) hx hb hr (fun t ht hW => ⟨⟨((sx0 p1.toNatClampNeg) &&& (2147483647 : Int32)) - ((sx0 p1.toNatClampNeg) &&& (2147483647 : Int32)) / p2 * p2, (), rfl, hwp, by rw [ht]; exact hP9, va_K.moved hW.alike hK, hD9⟩, hS.F ht⟩) hS.2.2 dL_draw_18

