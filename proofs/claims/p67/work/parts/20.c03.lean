abbrev ws_X5_checkNumber : List Cond := .code yX5_checkNumber cX5_checkNumber 2 (some .boolean) :: WALL
abbrev rm_X5_checkNumber : Room := { frames := 1, cells := 0, slots := 0, locals := 21 }
abbrev w_X5_checkNumber (C : Nat → ClassId) (q : Nat) (q_draft : Nat) (q_text : Nat) (t_code : Int32) (t_place : Int32) (t_length : Int32) (t_kind : Int32) (t_start : Int32) (t_next : Int32) (t_value : Int32) : va_W := [(q, .inr (5, [.ref q_draft, .int t_code, .int t_place, .ref q_text, .int t_length, .int t_kind, .int t_start, .int t_next, .int t_value]))]
abbrev q_X5_checkNumber (D : va_G) (C : Nat → ClassId) (q : Nat) (q_draft : Nat) (q_text : Nat) (t_length : Int32) (t_kind : Int32) (t_start : Int32) (t_next : Int32) (t_value : Int32) (Q : Int32 → Int32 → Int32 → Prop) (A : Nat → Prop) : Array Value → State → Outcome → State → Prop := va_Qi (fun (r : Int32) (u : Int32 × Int32) => Q r u.1 u.2) (fun (u : Int32 × Int32) (t : State) => va_P D vwCl (w_X5_checkNumber C q q_draft q_text u.1 u.2 t_length t_kind t_start t_next t_value) t.heap ∧ va_K D vwCl (tyL C) t ∧ va_D A (w_X5_checkNumber C q q_draft q_text u.1 u.2 t_length t_kind t_start t_next t_value)) A
set_option maxHeartbeats 4000000 in
set_option maxRecDepth 100000 in
theorem met_X5_checkNumber (l : Launch) (D : va_G) (C : Nat → ClassId) (q : Nat) (q_draft : Nat) (q_text : Nat) (p1 : Int32) (t_code : Int32) (t_place : Int32) (t_length : Int32) (t_kind : Int32) (t_start : Int32) (t_next : Int32) (t_value : Int32) (sz : Nat) (Q : Int32 → Int32 → Int32 → Prop) (hwp : wp_X5_checkNumber p1 t_code t_place t_kind t_start t_value Q) : Met l yX5_checkNumber ws_X5_checkNumber rm_X5_checkNumber (va_Pc [.ref q, .int p1] (fun U => U.heap.size = sz ∧ va_P D vwCl (w_X5_checkNumber C q q_draft q_text t_code t_place t_length t_kind t_start t_next t_value) U.heap ∧ va_K D vwCl (tyL C) U ∧ va_D (fun _ => True) (w_X5_checkNumber C q q_draft q_text t_code t_place t_length t_kind t_start t_next t_value))) (q_X5_checkNumber D C q q_draft q_text t_length t_kind t_start t_next t_value Q (va_A (w_X5_checkNumber C q q_draft q_text t_code t_place t_length t_kind t_start t_next t_value) sz)) 0 0 (va_A (w_X5_checkNumber C q q_draft q_text t_code t_place t_length t_kind t_start t_next t_value) sz) := by
  refine Met.ofW (cc := cX5_checkNumber) (maxL := 2) (ret := (some .boolean)) (by decide) rfl ?_
  intro p e s m args below meth c s₁ B hml hv
  obtain ⟨rfl, hsz, hP, hK, hD0⟩ := hv
  have hx := B.exec
  have hb := B.bytes
  have hr := B.returns
  have hts : ∀ w ∈ WALL, w.before _ s = true := fun w h => atoms_spec (ws := ws_X5_checkNumber) B.pre w (List.mem_cons_of_mem _ h)
  have hown : s.vm.findClass RX5 = some m.cls := findClass_of_methodNamed B.named
  have hlocks := B.notSynchronized
  subst hsz
  have hD := hD0.self (sz := s.heap.size)
  generalize hAe : va_A (w_X5_checkNumber C q q_draft q_text t_code t_place t_length t_kind t_start t_next t_value) s.heap.size = A at hD ⊢
  have hA : ∀ q : Nat, s.heap.size ≤ q → A q := fun q h => by rw [← hAe]; exact Or.inr h
  have hS : va_S A s.heap s.heap [] := va_S.rf
  have hl := lv_entry ([.ref q, .int p1]) (n := 2) (Nat.le_of_ble_eq_true rfl)
  rw [lg_entry_eq]
  generalize (lg_sl ([.ref q, .int p1]) ++ List.replicate (2 - (lg_sl ([.ref q, .int p1])).length) Slot.unset).toArray = ls at hl ⊢
  have hl : lv_has ls 2 [(0, .ref q), (1, .int p1)] := hl
  unfold wp_X5_checkNumber at hwp
  obtain ⟨H, hH⟩ : ∃ H, H = s.heap := ⟨_, rfl⟩
  obtain ⟨locs, hlo⟩ : ∃ z : List Loc, z = [] := ⟨_, rfl⟩
  have hP : va_P D vwCl [(q, .inr (5, [.ref q_draft, .int t_code, .int t_place, .ref q_text, .int t_length, .int t_kind, .int t_start, .int t_next, .int t_value]))] H := by rw [hH]; exact hP
  have hD : va_D A [(q, .inr (5, [.ref q_draft, .int t_code, .int t_place, .ref q_text, .int t_length, .int t_kind, .int t_start, .int t_next, .int t_value]))] := hD
  have hS : va_S A s.heap H locs := by rw [hH, hlo]; exact hS
  suffices K : W p l e (headSpec ws_X5_checkNumber rm_X5_checkNumber).room s m ([.ref q, .int p1] : List Value).toArray below meth c H locs 0 0 (MQ below (q_X5_checkNumber D C q q_draft q_text t_length t_kind t_start t_next t_value Q A) ([.ref q, .int p1] : List Value).toArray s 0 0 A) (F0 m 0 ls []) from by rw [hH, hlo] at K; exact K
  refine lv_aload_n hx hb dX5_checkNumber_0 rfl (lv_at hl 0 rfl) ?_
  refine va_get (D := D) (ci := 5) (v := .int t_kind) (C := RX5) (T := TX5) (N := 9) hx hb hts iwX5 hown hK hP 0 rfl rfl 5 (by decide) (hts (.fieldLink RX5 51 "ParetoDesk$Parser" "kind" "I") wd_155) (fun _ h9 => h9) rfl dX5_checkNumber_1 ?_
  refine lv_iconst (v := 2) hx hb dX5_checkNumber_4 (by decide) ?_
  refine lv_icmp_eq (tgt := 14) hx hb dX5_checkNumber_5 (by decide) (fun c5 => ?_) (fun c5 => ?_)
  · have hwp := hwp.1 c5
    refine lv_aload_n hx hb dX5_checkNumber_14 rfl (lv_at hl 0 rfl) ?_
    refine va_get (D := D) (ci := 5) (v := .int t_value) (C := RX5) (T := TX5) (N := 9) hx hb hts iwX5 hown hK hP 0 rfl rfl 8 (by decide) (hts (.fieldLink RX5 60 "ParetoDesk$Parser" "value" "I") wd_158) (fun _ h9 => h9) rfl dX5_checkNumber_15 ?_
    refine lv_iload_n hx hb dX5_checkNumber_18 rfl (lv_at hl 1 rfl) ?_
    refine lv_icmp_le (tgt := 30) hx hb dX5_checkNumber_19 (by decide) (fun c19 => ?_) (fun c19 => ?_)
    · have hwp := hwp.1 c19
      refine lv_iconst (v := 1) hx hb dX5_checkNumber_30 (by decide) ?_
      refine lv_goto (tgt := 35) hx hb dX5_checkNumber_31 (by decide) ?_
      have hP9 := hP.sub (ws' := [(q, .inr (5, [.ref q_draft, .int t_code, .int t_place, .ref q_text, .int t_length, .int t_kind, .int t_start, .int t_next, .int t_value]))]) [0] rfl
      have hD9 := hD.sub (ws' := [(q, .inr (5, [.ref q_draft, .int t_code, .int t_place, .ref q_text, .int t_length, .int t_kind, .int t_start, .int t_next, .int t_value]))]) [0] (by decide) rfl
      exact W.zret (v := (1 : Int32)) (ty := .boolean) hx hb hr rfl (fun t ht hW => ⟨⟨(1 : Int32), (t_code, t_place), rfl, hwp, by rw [ht]; exact hP9, va_K.moved hW.alike hK, hD9⟩, hS.F ht⟩) hS.2.2 dX5_checkNumber_35
    · have hwp := hwp.2 c19
      refine lv_aload_n hx hb dX5_checkNumber_22 rfl (lv_at hl 0 rfl) ?_
      refine lv_iconst (v := 2) hx hb dX5_checkNumber_23 (by decide) ?_
      have hPc := hP.sub (ws' := [(q, .inr (5, [.ref q_draft, .int t_code, .int t_place, .ref q_text, .int t_length, .int t_kind, .int t_start, .int t_next, .int t_value]))]) [0] rfl
      have hDc := hD.sub (ws' := [(q, .inr (5, [.ref q_draft, .int t_code, .int t_place, .ref q_text, .int t_length, .int t_kind, .int t_start, .int t_next, .int t_value]))]) [0] (by decide) rfl
      have hFc := va_free (wc := [(q, .inr (5, [.ref q_draft, .int t_code, .int t_place, .ref q_text, .int t_length, .int t_kind, .int t_start, .int t_next, .int t_value]))]) hD hS hA [0] rfl
      refine va_calli (va_runV (As := [.int (2 : Int32)]) (rest := []) ⟨hx, hb, hml, hown, hts⟩ (met_X5_fail l D C q q_draft q_text (2 : Int32) t_code t_place t_length t_kind t_start t_next t_value H.size _ hwp) (cwV 1 hts gc_X5_90 rfl rfl rfl (by decide +kernel) ⟨Nat.le_of_ble_eq_true rfl, Nat.le_of_ble_eq_true rfl⟩) ⟨fun a U g mk q => by obtain ⟨q0, q1, qP, qK, qD⟩ := q; exact ⟨q0, q1, qP, va_K.moved (u := U) (U := U.calling g mk a) (Vm.Alike.refl U.vm) qK, qD⟩, va_recv hK hPc (ci := 5) (q0 := 0) rfl rfl, fun U hU hW => ⟨rfl, by rw [hU], by rw [hU]; exact hPc, va_K.moved hW.alike hK, hDc.weaken (fun _ _ _ _ => trivial)⟩⟩ rfl rfl hl.1 rfl (lv_room (Nat.le_of_ble_eq_true rfl)) dX5_checkNumber_24 ⟨Nat.zero_le _, Nat.zero_le _⟩) hS (fun q _ h => hFc q h) hFc (fun r24 u t H1 locs ht hvm hwp hB hz1 hk1 hS => ?_)
      obtain ⟨u24_1, u24_2⟩ := u
      obtain ⟨hP1, -, hD1⟩ := hB
      rw [ht] at hP1
      obtain ⟨hP, hD⟩ := va_join (wr := []) (w1 := [(q, .inr (5, [.ref q_draft, .int u24_1, .int u24_2, .ref q_text, .int t_length, .int t_kind, .int t_start, .int t_next, .int t_value]))]) hP hD [0] [] rfl rfl (by decide) (by decide) hk1 hFc hP1 hD1
      generalize H1 = H at hP hS ⊢
      have hP : va_P D vwCl [(q, .inr (5, [.ref q_draft, .int u24_1, .int u24_2, .ref q_text, .int t_length, .int t_kind, .int t_start, .int t_next, .int t_value]))] H := hP
      have hD : va_D A [(q, .inr (5, [.ref q_draft, .int u24_1, .int u24_2, .ref q_text, .int t_length, .int t_kind, .int t_start, .int t_next, .int t_value]))] := hD
      refine lv_if_eq (tgt := 34) hx hb dX5_checkNumber_27 (by decide) (fun c27 => ?_) (fun c27 => ?_)
      · have hwp := hwp.1 c27
        refine lv_iconst (v := 0) hx hb dX5_checkNumber_34 (by decide) ?_
        have hP9 := hP.sub (ws' := [(q, .inr (5, [.ref q_draft, .int u24_1, .int u24_2, .ref q_text, .int t_length, .int t_kind, .int t_start, .int t_next, .int t_value]))]) [0] rfl
        have hD9 := hD.sub (ws' := [(q, .inr (5, [.ref q_draft, .int u24_1, .int u24_2, .ref q_text, .int t_length, .int t_kind, .int t_start, .int t_next, .int t_value]))]) [0] (by decide) rfl
        exact W.zret (v := (0 : Int32)) (ty := .boolean) hx hb hr rfl (fun t ht hW => ⟨⟨(0 : Int32), (u24_1, u24_2), rfl, hwp, by rw [ht]; exact hP9, va_K.moved hW.alike hK, hD9⟩, hS.F ht⟩) hS.2.2 dX5_checkNumber_35
      · have hwp := hwp.2 c27
        refine lv_iconst (v := 1) hx hb dX5_checkNumber_30 (by decide) ?_
        refine lv_goto (tgt := 35) hx hb dX5_checkNumber_31 (by decide) ?_
        have hP9 := hP.sub (ws' := [(q, .inr (5, [.ref q_draft, .int u24_1, .int u24_2, .ref q_text, .int t_length, .int t_kind, .int t_start, .int t_next, .int t_value]))]) [0] rfl
        have hD9 := hD.sub (ws' := [(q, .inr (5, [.ref q_draft, .int u24_1, .int u24_2, .ref q_text, .int t_length, .int t_kind, .int t_start, .int t_next, .int t_value]))]) [0] (by decide) rfl
        exact W.zret (v := (1 : Int32)) (ty := .boolean) hx hb hr rfl (fun t ht hW => ⟨⟨(1 : Int32), (u24_1, u24_2), rfl, hwp, by rw [ht]; exact hP9, va_K.moved hW.alike hK, hD9⟩, hS.F ht⟩) hS.2.2 dX5_checkNumber_35
  · have hwp := hwp.2 c5
    refine lv_aload_n hx hb dX5_checkNumber_8 rfl (lv_at hl 0 rfl) ?_
    refine lv_iconst (v := 1) hx hb dX5_checkNumber_9 (by decide) ?_
    have hPc := hP.sub (ws' := [(q, .inr (5, [.ref q_draft, .int t_code, .int t_place, .ref q_text, .int t_length, .int t_kind, .int t_start, .int t_next, .int t_value]))]) [0] rfl
    have hDc := hD.sub (ws' := [(q, .inr (5, [.ref q_draft, .int t_code, .int t_place, .ref q_text, .int t_length, .int t_kind, .int t_start, .int t_next, .int t_value]))]) [0] (by decide) rfl
    have hFc := va_free (wc := [(q, .inr (5, [.ref q_draft, .int t_code, .int t_place, .ref q_text, .int t_length, .int t_kind, .int t_start, .int t_next, .int t_value]))]) hD hS hA [0] rfl
    refine va_calli (va_runV (As := [.int (1 : Int32)]) (rest := []) ⟨hx, hb, hml, hown, hts⟩ (met_X5_fail l D C q q_draft q_text (1 : Int32) t_code t_place t_length t_kind t_start t_next t_value H.size _ hwp) (cwV 1 hts gc_X5_90 rfl rfl rfl (by decide +kernel) ⟨Nat.le_of_ble_eq_true rfl, Nat.le_of_ble_eq_true rfl⟩) ⟨fun a U g mk q => by obtain ⟨q0, q1, qP, qK, qD⟩ := q; exact ⟨q0, q1, qP, va_K.moved (u := U) (U := U.calling g mk a) (Vm.Alike.refl U.vm) qK, qD⟩, va_recv hK hPc (ci := 5) (q0 := 0) rfl rfl, fun U hU hW => ⟨rfl, by rw [hU], by rw [hU]; exact hPc, va_K.moved hW.alike hK, hDc.weaken (fun _ _ _ _ => trivial)⟩⟩ rfl rfl hl.1 rfl (lv_room (Nat.le_of_ble_eq_true rfl)) dX5_checkNumber_10 ⟨Nat.zero_le _, Nat.zero_le _⟩) hS (fun q _ h => hFc q h) hFc (fun r10 u t H1 locs ht hvm hwp hB hz1 hk1 hS => ?_)
    obtain ⟨u10_3, u10_4⟩ := u
    obtain ⟨hP1, -, hD1⟩ := hB
    rw [ht] at hP1
    obtain ⟨hP, hD⟩ := va_join (wr := []) (w1 := [(q, .inr (5, [.ref q_draft, .int u10_3, .int u10_4, .ref q_text, .int t_length, .int t_kind, .int t_start, .int t_next, .int t_value]))]) hP hD [0] [] rfl rfl (by decide) (by decide) hk1 hFc hP1 hD1
    generalize H1 = H at hP hS ⊢
    have hP : va_P D vwCl [(q, .inr (5, [.ref q_draft, .int u10_3, .int u10_4, .ref q_text, .int t_length, .int t_kind, .int t_start, .int t_next, .int t_value]))] H := hP
    have hD : va_D A [(q, .inr (5, [.ref q_draft, .int u10_3, .int u10_4, .ref q_text, .int t_length, .int t_kind, .int t_start, .int t_next, .int t_value]))] := hD
    have hP9 := hP.sub (ws' := [(q, .inr (5, [.ref q_draft, .int u10_3, .int u10_4, .ref q_text, .int t_length, .int t_kind, .int t_start, .int t_next, .int t_value]))]) [0] rfl
    have hD9 := hD.sub (ws' := [(q, .inr (5, [.ref q_draft, .int u10_3, .int u10_4, .ref q_text, .int t_length, .int t_kind, .int t_start, .int t_next, .int t_value]))]) [0] (by decide) rfl
    obtain ⟨hn9, hwp⟩ := hwp
    exact W.zret (v := r10) (ty := .boolean) hx hb hr hn9 (fun t ht hW => ⟨⟨r10, (u10_3, u10_4), rfl, hwp, by rw [ht]; exact hP9, va_K.moved hW.alike hK, hD9⟩, hS.F ht⟩) hS.2.2 dX5_checkNumber_13
abbrev ws_X5_passNumber : List Cond := .code yX5_passNumber cX5_passNumber 3 (some .int) :: WALL
theorem gc_X5_94 : GoodIn WALL (wsV RX5 94 RX5 yX5_checkNumber ws_X5_checkNumber) := gc_v wd_930 wd_932 wd_10 wd_36 wd_933
abbrev rm_X5_passNumber : Room := { frames := 2, cells := 0, slots := 0, locals := 42 }
abbrev w_X5_passNumber (C : Nat → ClassId) (q : Nat) (q_draft : Nat) (q_text : Nat) (t_code : Int32) (t_place : Int32) (t_length : Int32) (t_kind : Int32) (t_start : Int32) (t_next : Int32) (t_value : Int32) (t_text : Nat → Int32) : va_W := [(q, .inr (5, [.ref q_draft, .int t_code, .int t_place, .ref q_text, .int t_length, .int t_kind, .int t_start, .int t_next, .int t_value])), (q_text, .inl (C 1, 600, .inl t_text))]
abbrev q_X5_passNumber (D : va_G) (C : Nat → ClassId) (q : Nat) (q_draft : Nat) (q_text : Nat) (t_length : Int32) (t_text : Nat → Int32) (Q : Int32 → Int32 → Int32 → Int32 → Int32 → Int32 → Int32 → Prop) (A : Nat → Prop) : Array Value → State → Outcome → State → Prop := va_Qi (fun (r : Int32) (u : Int32 × Int32 × Int32 × Int32 × Int32 × Int32) => Q r u.1 u.2.1 u.2.2.1 u.2.2.2.1 u.2.2.2.2.1 u.2.2.2.2.2) (fun (u : Int32 × Int32 × Int32 × Int32 × Int32 × Int32) (t : State) => va_P D vwCl (w_X5_passNumber C q q_draft q_text u.1 u.2.1 t_length u.2.2.1 u.2.2.2.1 u.2.2.2.2.1 u.2.2.2.2.2 t_text) t.heap ∧ va_K D vwCl (tyL C) t ∧ va_D A (w_X5_passNumber C q q_draft q_text u.1 u.2.1 t_length u.2.2.1 u.2.2.2.1 u.2.2.2.2.1 u.2.2.2.2.2 t_text)) A
set_option maxHeartbeats 4000000 in
set_option maxRecDepth 100000 in
theorem met_X5_passNumber (l : Launch) (D : va_G) (C : Nat → ClassId) (q : Nat) (q_draft : Nat) (q_text : Nat) (p1 : Int32) (t_code : Int32) (t_place : Int32) (t_length : Int32) (t_kind : Int32) (t_start : Int32) (t_next : Int32) (t_value : Int32) (t_text : Nat → Int32) (sz : Nat) (Q : Int32 → Int32 → Int32 → Int32 → Int32 → Int32 → Int32 → Prop) (hwp : wp_X5_passNumber p1 t_code t_place t_length t_kind t_start t_next t_value t_text Q) : Met l yX5_passNumber ws_X5_passNumber rm_X5_passNumber (va_Pc [.ref q, .int p1] (fun U => U.heap.size = sz ∧ va_P D vwCl (w_X5_passNumber C q q_draft q_text t_code t_place t_length t_kind t_start t_next t_value t_text) U.heap ∧ va_K D vwCl (tyL C) U ∧ va_D (fun _ => True) (w_X5_passNumber C q q_draft q_text t_code t_place t_length t_kind t_start t_next t_value t_text))) (q_X5_passNumber D C q q_draft q_text t_length t_text Q (va_A (w_X5_passNumber C q q_draft q_text t_code t_place t_length t_kind t_start t_next t_value t_text) sz)) 0 0 (va_A (w_X5_passNumber C q q_draft q_text t_code t_place t_length t_kind t_start t_next t_value t_text) sz) := by
  refine Met.ofW (cc := cX5_passNumber) (maxL := 3) (ret := (some .int)) (by decide) rfl ?_
  intro p e s m args below meth c s₁ B hml hv
  obtain ⟨rfl, hsz, hP, hK, hD0⟩ := hv
  have hx := B.exec
  have hb := B.bytes
  have hr := B.returns
  have hts : ∀ w ∈ WALL, w.before _ s = true := fun w h => atoms_spec (ws := ws_X5_passNumber) B.pre w (List.mem_cons_of_mem _ h)
  have hown : s.vm.findClass RX5 = some m.cls := findClass_of_methodNamed B.named
  have hlocks := B.notSynchronized
  subst hsz
  have hD := hD0.self (sz := s.heap.size)
  generalize hAe : va_A (w_X5_passNumber C q q_draft q_text t_code t_place t_length t_kind t_start t_next t_value t_text) s.heap.size = A at hD ⊢
  have hA : ∀ q : Nat, s.heap.size ≤ q → A q := fun q h => by rw [← hAe]; exact Or.inr h
  have hS : va_S A s.heap s.heap [] := va_S.rf
  have hl := lv_entry ([.ref q, .int p1]) (n := 3) (Nat.le_of_ble_eq_true rfl)
  rw [lg_entry_eq]
  generalize (lg_sl ([.ref q, .int p1]) ++ List.replicate (3 - (lg_sl ([.ref q, .int p1])).length) Slot.unset).toArray = ls at hl ⊢
  have hl : lv_has ls 3 [(0, .ref q), (1, .int p1)] := hl
  unfold wp_X5_passNumber at hwp
  obtain ⟨H, hH⟩ : ∃ H, H = s.heap := ⟨_, rfl⟩
  obtain ⟨locs, hlo⟩ : ∃ z : List Loc, z = [] := ⟨_, rfl⟩
  have hP : va_P D vwCl [(q, .inr (5, [.ref q_draft, .int t_code, .int t_place, .ref q_text, .int t_length, .int t_kind, .int t_start, .int t_next, .int t_value])), (q_text, .inl (C 1, 600, .inl t_text))] H := by rw [hH]; exact hP
  have hD : va_D A [(q, .inr (5, [.ref q_draft, .int t_code, .int t_place, .ref q_text, .int t_length, .int t_kind, .int t_start, .int t_next, .int t_value])), (q_text, .inl (C 1, 600, .inl t_text))] := hD
  have hS : va_S A s.heap H locs := by rw [hH, hlo]; exact hS
  suffices K : W p l e (headSpec ws_X5_passNumber rm_X5_passNumber).room s m ([.ref q, .int p1] : List Value).toArray below meth c H locs 0 0 (MQ below (q_X5_passNumber D C q q_draft q_text t_length t_text Q A) ([.ref q, .int p1] : List Value).toArray s 0 0 A) (F0 m 0 ls []) from by rw [hH, hlo] at K; exact K
  refine lv_aload_n hx hb dX5_passNumber_0 rfl (lv_at hl 0 rfl) ?_
  refine lv_iload_n hx hb dX5_passNumber_1 rfl (lv_at hl 1 rfl) ?_
  have hPc := hP.sub (ws' := [(q, .inr (5, [.ref q_draft, .int t_code, .int t_place, .ref q_text, .int t_length, .int t_kind, .int t_start, .int t_next, .int t_value]))]) [0] rfl
  have hDc := hD.sub (ws' := [(q, .inr (5, [.ref q_draft, .int t_code, .int t_place, .ref q_text, .int t_length, .int t_kind, .int t_start, .int t_next, .int t_value]))]) [0] (by decide) rfl
  have hFc := va_free (wc := [(q, .inr (5, [.ref q_draft, .int t_code, .int t_place, .ref q_text, .int t_length, .int t_kind, .int t_start, .int t_next, .int t_value]))]) hD hS hA [0] rfl
  refine va_calli (va_runV (As := [.int p1]) (rest := []) ⟨hx, hb, hml, hown, hts⟩ (met_X5_checkNumber l D C q q_draft q_text p1 t_code t_place t_length t_kind t_start t_next t_value H.size _ hwp) (cwV 1 hts gc_X5_94 rfl rfl rfl (by decide +kernel) ⟨Nat.le_of_ble_eq_true rfl, Nat.le_of_ble_eq_true rfl⟩) ⟨fun a U g mk q => by obtain ⟨q0, q1, qP, qK, qD⟩ := q; exact ⟨q0, q1, qP, va_K.moved (u := U) (U := U.calling g mk a) (Vm.Alike.refl U.vm) qK, qD⟩, va_recv hK hPc (ci := 5) (q0 := 0) rfl rfl, fun U hU hW => ⟨rfl, by rw [hU], by rw [hU]; exact hPc, va_K.moved hW.alike hK, hDc.weaken (fun _ _ _ _ => trivial)⟩⟩ rfl rfl hl.1 rfl (lv_room (Nat.le_of_ble_eq_true rfl)) dX5_passNumber_2 ⟨Nat.zero_le _, Nat.zero_le _⟩) hS (fun q _ h => hFc q h) hFc (fun r2 u t H1 locs ht hvm hwp hB hz1 hk1 hS => ?_)
  obtain ⟨u2_1, u2_2⟩ := u
  obtain ⟨hP1, -, hD1⟩ := hB
  rw [ht] at hP1
  obtain ⟨hP, hD⟩ := va_join (wr := [(q_text, .inl (C 1, 600, .inl t_text))]) (w1 := [(q, .inr (5, [.ref q_draft, .int u2_1, .int u2_2, .ref q_text, .int t_length, .int t_kind, .int t_start, .int t_next, .int t_value]))]) hP hD [0] [1] rfl rfl (by decide) (by decide) hk1 hFc hP1 hD1
  generalize H1 = H at hP hS ⊢
  have hP : va_P D vwCl [(q_text, .inl (C 1, 600, .inl t_text)), (q, .inr (5, [.ref q_draft, .int u2_1, .int u2_2, .ref q_text, .int t_length, .int t_kind, .int t_start, .int t_next, .int t_value]))] H := hP
  have hD : va_D A [(q_text, .inl (C 1, 600, .inl t_text)), (q, .inr (5, [.ref q_draft, .int u2_1, .int u2_2, .ref q_text, .int t_length, .int t_kind, .int t_start, .int t_next, .int t_value]))] := hD
  refine lv_if_ne (tgt := 10) hx hb dX5_passNumber_5 (by decide) (fun c5 => ?_) (fun c5 => ?_)
  · have hwp := hwp.1 c5
    refine lv_aload_n hx hb dX5_passNumber_10 rfl (lv_at hl 0 rfl) ?_
    refine va_get (D := D) (ci := 5) (v := .int t_value) (C := RX5) (T := TX5) (N := 9) hx hb hts iwX5 hown hK hP 1 rfl rfl 8 (by decide) (hts (.fieldLink RX5 60 "ParetoDesk$Parser" "value" "I") wd_158) (fun _ h9 => h9) rfl dX5_passNumber_11 ?_
    refine lv_istore_n (lv' := [(2, .int t_value), (0, .ref q), (1, .int p1)]) hx hb dX5_passNumber_14 rfl hl (by decide) rfl (fun ls hl => ?_)
    refine lv_aload_n hx hb dX5_passNumber_15 rfl (lv_at hl 1 rfl) ?_
    have hPc := hP.sub (ws' := [(q, .inr (5, [.ref q_draft, .int u2_1, .int u2_2, .ref q_text, .int t_length, .int t_kind, .int t_start, .int t_next, .int t_value])), (q_text, .inl (C 1, 600, .inl t_text))]) [1, 0] rfl
    have hDc := hD.sub (ws' := [(q, .inr (5, [.ref q_draft, .int u2_1, .int u2_2, .ref q_text, .int t_length, .int t_kind, .int t_start, .int t_next, .int t_value])), (q_text, .inl (C 1, 600, .inl t_text))]) [1, 0] (by decide) rfl
    have hFc := va_free (wc := [(q, .inr (5, [.ref q_draft, .int u2_1, .int u2_2, .ref q_text, .int t_length, .int t_kind, .int t_start, .int t_next, .int t_value])), (q_text, .inl (C 1, 600, .inl t_text))]) hD hS hA [1, 0] rfl
    refine va_callv (va_runV (As := []) (rest := []) ⟨hx, hb, hml, hown, hts⟩ (met_X5_advance l D C q q_draft q_text u2_1 u2_2 t_length t_kind t_start t_next t_value t_text H.size _ hwp) (cwV 0 hts gc_X5_44 rfl rfl rfl (by decide +kernel) ⟨Nat.le_of_ble_eq_true rfl, Nat.le_of_ble_eq_true rfl⟩) ⟨fun a U g mk q => by obtain ⟨q0, q1, qP, qK, qD⟩ := q; exact ⟨q0, q1, qP, va_K.moved (u := U) (U := U.calling g mk a) (Vm.Alike.refl U.vm) qK, qD⟩, va_recv hK hPc (ci := 5) (q0 := 0) rfl rfl, fun U hU hW => ⟨rfl, by rw [hU], by rw [hU]; exact hPc, va_K.moved hW.alike hK, hDc.weaken (fun _ _ _ _ => trivial)⟩⟩ rfl rfl hl.1 rfl (lv_room (Nat.le_of_ble_eq_true rfl)) dX5_passNumber_16 ⟨Nat.zero_le _, Nat.zero_le _⟩) hS (fun q _ h => hFc q h) hFc (fun u t H1 locs ht hvm hwp hB hz1 hk1 hS => ?_)
    obtain ⟨u16_3, u16_4, u16_5, u16_6⟩ := u
    obtain ⟨hP1, -, hD1⟩ := hB
    rw [ht] at hP1
    obtain ⟨hP, hD⟩ := va_join (wr := []) (w1 := [(q, .inr (5, [.ref q_draft, .int u2_1, .int u2_2, .ref q_text, .int t_length, .int u16_3, .int u16_4, .int u16_5, .int u16_6])), (q_text, .inl (C 1, 600, .inl t_text))]) hP hD [1, 0] [] rfl rfl (by decide) (by decide) hk1 hFc hP1 hD1
    generalize H1 = H at hP hS ⊢
    have hP : va_P D vwCl [(q, .inr (5, [.ref q_draft, .int u2_1, .int u2_2, .ref q_text, .int t_length, .int u16_3, .int u16_4, .int u16_5, .int u16_6])), (q_text, .inl (C 1, 600, .inl t_text))] H := hP
    have hD : va_D A [(q, .inr (5, [.ref q_draft, .int u2_1, .int u2_2, .ref q_text, .int t_length, .int u16_3, .int u16_4, .int u16_5, .int u16_6])), (q_text, .inl (C 1, 600, .inl t_text))] := hD
    refine lv_iload_n hx hb dX5_passNumber_19 rfl (lv_at hl 0 rfl) ?_
    have hP9 := hP.sub (ws' := [(q, .inr (5, [.ref q_draft, .int u2_1, .int u2_2, .ref q_text, .int t_length, .int u16_3, .int u16_4, .int u16_5, .int u16_6])), (q_text, .inl (C 1, 600, .inl t_text))]) [0, 1] rfl
    have hD9 := hD.sub (ws' := [(q, .inr (5, [.ref q_draft, .int u2_1, .int u2_2, .ref q_text, .int t_length, .int u16_3, .int u16_4, .int u16_5, .int u16_6])), (q_text, .inl (C 1, 600, .inl t_text))]) [0, 1] (by decide) rfl
    exact W.iret (v := t_value) hx hb hr (fun t ht hW => ⟨⟨t_value, (u2_1, u2_2, u16_3, u16_4, u16_5, u16_6), rfl, hwp, by rw [ht]; exact hP9, va_K.moved hW.alike hK, hD9⟩, hS.F ht⟩) hS.2.2 dX5_passNumber_20
  · have hwp := hwp.2 c5
    refine lv_iconst (v := (-1)) hx hb dX5_passNumber_8 (by decide) ?_
    have hP9 := hP.sub (ws' := [(q, .inr (5, [.ref q_draft, .int u2_1, .int u2_2, .ref q_text, .int t_length, .int t_kind, .int t_start, .int t_next, .int t_value])), (q_text, .inl (C 1, 600, .inl t_text))]) [1, 0] rfl
    have hD9 := hD.sub (ws' := [(q, .inr (5, [.ref q_draft, .int u2_1, .int u2_2, .ref q_text, .int t_length, .int t_kind, .int t_start, .int t_next, .int t_value])), (q_text, .inl (C 1, 600, .inl t_text))]) [1, 0] (by decide) rfl
    exact W.iret (v := (-1 : Int32)) hx hb hr (fun t ht hW => ⟨⟨(-1 : Int32), (u2_1, u2_2, t_kind, t_start, t_next, t_value), rfl, hwp, by rw [ht]; exact hP9, va_K.moved hW.alike hK, hD9⟩, hS.F ht⟩) hS.2.2 dX5_passNumber_9
abbrev ws_X10_hasBit : List Cond := .code yX10_hasBit cX10_hasBit 2 (some .boolean) :: WALL
abbrev rm_X10_hasBit : Room := { frames := 0, cells := 0, slots := 0, locals := 0 }
abbrev w_X10_hasBit (C : Nat → ClassId) : va_W := []
abbrev q_X10_hasBit (D : va_G) (C : Nat → ClassId) (Q : Int32 → Prop) (A : Nat → Prop) : Array Value → State → Outcome → State → Prop := va_Qi (fun (r : Int32) (u : Unit) => Q r) (fun (u : Unit) (t : State) => va_P D vwCl (w_X10_hasBit C ) t.heap ∧ va_K D vwCl (tyL C) t ∧ va_D A (w_X10_hasBit C )) A
set_option maxHeartbeats 4000000 in
set_option maxRecDepth 100000 in
theorem met_X10_hasBit (l : Launch) (D : va_G) (C : Nat → ClassId) (p0 : Int32) (p1 : Int32) (sz : Nat) (Q : Int32 → Prop) (hwp : wp_X10_hasBit p0 p1 Q) : Met l yX10_hasBit ws_X10_hasBit rm_X10_hasBit (va_Pc [.int p0, .int p1] (fun U => U.heap.size = sz ∧ va_P D vwCl (w_X10_hasBit C ) U.heap ∧ va_K D vwCl (tyL C) U ∧ va_D (fun _ => True) (w_X10_hasBit C ))) (q_X10_hasBit D C  Q (va_A (w_X10_hasBit C ) sz)) 0 0 (va_A (w_X10_hasBit C ) sz) := by
  refine Met.ofW (cc := cX10_hasBit) (maxL := 2) (ret := (some .boolean)) (by decide) rfl ?_
  intro p e s m args below meth c s₁ B hml hv
  obtain ⟨rfl, hsz, hP, hK, hD0⟩ := hv
  have hx := B.exec
  have hb := B.bytes
  have hr := B.returns
  have hts : ∀ w ∈ WALL, w.before _ s = true := fun w h => atoms_spec (ws := ws_X10_hasBit) B.pre w (List.mem_cons_of_mem _ h)
  have hown : s.vm.findClass RX10 = some m.cls := findClass_of_methodNamed B.named
  have hlocks := B.notSynchronized
  subst hsz
  have hD := hD0.self (sz := s.heap.size)
  generalize hAe : va_A (w_X10_hasBit C ) s.heap.size = A at hD ⊢
  have hA : ∀ q : Nat, s.heap.size ≤ q → A q := fun q h => by rw [← hAe]; exact Or.inr h
  have hS : va_S A s.heap s.heap [] := va_S.rf
  have hl := lv_entry ([.int p0, .int p1]) (n := 2) (Nat.le_of_ble_eq_true rfl)
  rw [lg_entry_eq]
  generalize (lg_sl ([.int p0, .int p1]) ++ List.replicate (2 - (lg_sl ([.int p0, .int p1])).length) Slot.unset).toArray = ls at hl ⊢
  have hl : lv_has ls 2 [(0, .int p0), (1, .int p1)] := hl
  unfold wp_X10_hasBit at hwp
  obtain ⟨H, hH⟩ : ∃ H, H = s.heap := ⟨_, rfl⟩
  obtain ⟨locs, hlo⟩ : ∃ z : List Loc, z = [] := ⟨_, rfl⟩
  have hP : va_P D vwCl [] H := by rw [hH]; exact hP
  have hD : va_D A [] := hD
  have hS : va_S A s.heap H locs := by rw [hH, hlo]; exact hS
  suffices K : W p l e (headSpec ws_X10_hasBit rm_X10_hasBit).room s m ([.int p0, .int p1] : List Value).toArray below meth c H locs 0 0 (MQ below (q_X10_hasBit D C Q A) ([.int p0, .int p1] : List Value).toArray s 0 0 A) (F0 m 0 ls []) from by rw [hH, hlo] at K; exact K
  refine lv_iload_n hx hb dX10_hasBit_0 rfl (lv_at hl 0 rfl) ?_
  refine lv_iload_n hx hb dX10_hasBit_1 rfl (lv_at hl 1 rfl) ?_
  refine lv_ishr hx hb dX10_hasBit_2 ?_
  refine lv_iconst (v := 1) hx hb dX10_hasBit_3 (by decide) ?_
  refine lv_iand hx hb dX10_hasBit_4 ?_
  refine lv_if_eq (tgt := 12) hx hb dX10_hasBit_5 (by decide) (fun c5 => ?_) (fun c5 => ?_)
  · have hwp := hwp.1 c5
    refine lv_iconst (v := 0) hx hb dX10_hasBit_12 (by decide) ?_
    have hP9 := hP.sub (ws' := []) [] rfl
    have hD9 := hD.sub (ws' := []) [] (by decide) rfl
    exact W.zret (v := (0 : Int32)) (ty := .boolean) hx hb hr rfl (fun t ht hW => ⟨⟨(0 : Int32), (), rfl, hwp, by rw [ht]; exact hP9, va_K.moved hW.alike hK, hD9⟩, hS.F ht⟩) hS.2.2 dX10_hasBit_13
  · have hwp := hwp.2 c5
    refine lv_iconst (v := 1) hx hb dX10_hasBit_8 (by decide) ?_
    refine lv_goto (tgt := 13) hx hb dX10_hasBit_9 (by decide) ?_
    have hP9 := hP.sub (ws' := []) [] rfl
    have hD9 := hD.sub (ws' := []) [] (by decide) rfl
    exact W.zret (v := (1 : Int32)) (ty := .boolean) hx hb hr rfl (fun t ht hW => ⟨⟨(1 : Int32), (), rfl, hwp, by rw [ht]; exact hP9, va_K.moved hW.alike hK, hD9⟩, hS.F ht⟩) hS.2.2 dX10_hasBit_13
abbrev ws_X10_withBit : List Cond := .code yX10_withBit cX10_withBit 3 (some .int) :: WALL
abbrev rm_X10_withBit : Room := { frames := 0, cells := 0, slots := 0, locals := 0 }
abbrev w_X10_withBit (C : Nat → ClassId) : va_W := []
abbrev q_X10_withBit (D : va_G) (C : Nat → ClassId) (Q : Int32 → Prop) (A : Nat → Prop) : Array Value → State → Outcome → State → Prop := va_Qi (fun (r : Int32) (u : Unit) => Q r) (fun (u : Unit) (t : State) => va_P D vwCl (w_X10_withBit C ) t.heap ∧ va_K D vwCl (tyL C) t ∧ va_D A (w_X10_withBit C )) A
set_option maxHeartbeats 4000000 in
set_option maxRecDepth 100000 in
theorem met_X10_withBit (l : Launch) (D : va_G) (C : Nat → ClassId) (p0 : Int32) (p1 : Int32) (p2 : Int32) (sz : Nat) (Q : Int32 → Prop) (hwp : wp_X10_withBit p0 p1 p2 Q) : Met l yX10_withBit ws_X10_withBit rm_X10_withBit (va_Pc [.int p0, .int p1, .int p2] (fun U => U.heap.size = sz ∧ va_P D vwCl (w_X10_withBit C ) U.heap ∧ va_K D vwCl (tyL C) U ∧ va_D (fun _ => True) (w_X10_withBit C ))) (q_X10_withBit D C  Q (va_A (w_X10_withBit C ) sz)) 0 0 (va_A (w_X10_withBit C ) sz) := by
  refine Met.ofW (cc := cX10_withBit) (maxL := 3) (ret := (some .int)) (by decide) rfl ?_
  intro p e s m args below meth c s₁ B hml hv
  obtain ⟨rfl, hsz, hP, hK, hD0⟩ := hv
  have hx := B.exec
  have hb := B.bytes
  have hr := B.returns
  have hts : ∀ w ∈ WALL, w.before _ s = true := fun w h => atoms_spec (ws := ws_X10_withBit) B.pre w (List.mem_cons_of_mem _ h)
  have hown : s.vm.findClass RX10 = some m.cls := findClass_of_methodNamed B.named
  have hlocks := B.notSynchronized
  subst hsz
  have hD := hD0.self (sz := s.heap.size)
  generalize hAe : va_A (w_X10_withBit C ) s.heap.size = A at hD ⊢
  have hA : ∀ q : Nat, s.heap.size ≤ q → A q := fun q h => by rw [← hAe]; exact Or.inr h
  have hS : va_S A s.heap s.heap [] := va_S.rf
  have hl := lv_entry ([.int p0, .int p1, .int p2]) (n := 3) (Nat.le_of_ble_eq_true rfl)
  rw [lg_entry_eq]
  generalize (lg_sl ([.int p0, .int p1, .int p2]) ++ List.replicate (3 - (lg_sl ([.int p0, .int p1, .int p2])).length) Slot.unset).toArray = ls at hl ⊢
  have hl : lv_has ls 3 [(0, .int p0), (1, .int p1), (2, .int p2)] := hl
  unfold wp_X10_withBit at hwp
  obtain ⟨H, hH⟩ : ∃ H, H = s.heap := ⟨_, rfl⟩
  obtain ⟨locs, hlo⟩ : ∃ z : List Loc, z = [] := ⟨_, rfl⟩
  have hP : va_P D vwCl [] H := by rw [hH]; exact hP
  have hD : va_D A [] := hD
  have hS : va_S A s.heap H locs := by rw [hH, hlo]; exact hS
  suffices K : W p l e (headSpec ws_X10_withBit rm_X10_withBit).room s m ([.int p0, .int p1, .int p2] : List Value).toArray below meth c H locs 0 0 (MQ below (q_X10_withBit D C Q A) ([.int p0, .int p1, .int p2] : List Value).toArray s 0 0 A) (F0 m 0 ls []) from by rw [hH, hlo] at K; exact K
  refine lv_iload_n hx hb dX10_withBit_0 rfl (lv_at hl 2 rfl) ?_
  refine lv_if_eq (tgt := 12) hx hb dX10_withBit_1 (by decide) (fun c1 => ?_) (fun c1 => ?_)
  · have hwp := hwp.1 c1
    refine lv_iload_n hx hb dX10_withBit_12 rfl (lv_at hl 0 rfl) ?_
    refine lv_iconst (v := 1) hx hb dX10_withBit_13 (by decide) ?_
    refine lv_iload_n hx hb dX10_withBit_14 rfl (lv_at hl 1 rfl) ?_
    refine lv_ishl hx hb dX10_withBit_15 ?_
    refine lv_iconst (v := (-1)) hx hb dX10_withBit_16 (by decide) ?_
    refine lv_ixor hx hb dX10_withBit_17 ?_
    refine lv_iand hx hb dX10_withBit_18 ?_
    have hP9 := hP.sub (ws' := []) [] rfl
    have hD9 := hD.sub (ws' := []) [] (by decide) rfl
    exact W.iret (v := p0 &&& (((1 : Int32) <<< (p1 &&& 31)) ^^^ (-1 : Int32))) hx hb hr (fun t ht hW => ⟨⟨p0 &&& (((1 : Int32) <<< (p1 &&& 31)) ^^^ (-1 : Int32)), (), rfl, hwp, by rw [ht]; exact hP9, va_K.moved hW.alike hK, hD9⟩, hS.F ht⟩) hS.2.2 dX10_withBit_19
  · have hwp := hwp.2 c1
    refine lv_iload_n hx hb dX10_withBit_4 rfl (lv_at hl 0 rfl) ?_
    refine lv_iconst (v := 1) hx hb dX10_withBit_5 (by decide) ?_
    refine lv_iload_n hx hb dX10_withBit_6 rfl (lv_at hl 1 rfl) ?_
    refine lv_ishl hx hb dX10_withBit_7 ?_
    refine lv_ior hx hb dX10_withBit_8 ?_
    refine lv_goto (tgt := 19) hx hb dX10_withBit_9 (by decide) ?_
    have hP9 := hP.sub (ws' := []) [] rfl
    have hD9 := hD.sub (ws' := []) [] (by decide) rfl
    exact W.iret (v := p0 ||| ((1 : Int32) <<< (p1 &&& 31))) hx hb hr (fun t ht hW => ⟨⟨p0 ||| ((1 : Int32) <<< (p1 &&& 31)), (), rfl, hwp, by rw [ht]; exact hP9, va_K.moved hW.alike hK, hD9⟩, hS.F ht⟩) hS.2.2 dX10_withBit_19
abbrev ws_X5_readPair : List Cond := .code yX5_readPair cX5_readPair 5 (some .boolean) :: WALL
theorem gc_X5_102 : GoodIn WALL (wsV RX5 102 RX5 yX5_passNumber ws_X5_passNumber) := gc_v wd_926 wd_928 wd_9 wd_36 wd_929
theorem gc_X10_hasBit : GoodIn WALL ws_X10_hasBit := gc_0 wd_963
theorem gc_X10_withBit : GoodIn WALL ws_X10_withBit := gc_0 wd_966
theorem gc_X5_112 : GoodIn WALL (wsV RX5 112 RX5 yX5_passEnd ws_X5_passEnd) := gc_v wd_935 wd_937 wd_11 wd_36 wd_938
abbrev rm_X5_readPair : Room := { frames := 3, cells := 0, slots := 0, locals := 64 }
abbrev w_X5_readPair (C : Nat → ClassId) (q : Nat) (q_draft : Nat) (q_text : Nat) (q_draft_weight : Nat) (q_draft_gain : Nat) (q_draft_joy : Nat) (q_draft_bars : Nat) (q_draft_needs : Nat) (t_code : Int32) (t_place : Int32) (t_length : Int32) (t_kind : Int32) (t_start : Int32) (t_next : Int32) (t_value : Int32) (t_text : Nat → Int32) (t_draft_items : Int32) (t_draft_capacity : Int32) (t_draft_limit : Int32) (t_draft_mustSet : Int32) (t_draft_neverSet : Int32) (t_draft_hand : Int32) (t_draft_bars : Nat → Int32) (t_draft_needs : Nat → Int32) : va_W := [(q, .inr (5, [.ref q_draft, .int t_code, .int t_place, .ref q_text, .int t_length, .int t_kind, .int t_start, .int t_next, .int t_value])), (q_text, .inl (C 1, 600, .inl t_text)), (q_draft, .inr (8, [.int t_draft_items, .int t_draft_capacity, .int t_draft_limit, .int t_draft_mustSet, .int t_draft_neverSet, .int t_draft_hand, .ref q_draft_weight, .ref q_draft_gain, .ref q_draft_joy, .ref q_draft_bars, .ref q_draft_needs])), (q_draft_bars, .inl (C 0, 12, .inl t_draft_bars)), (q_draft_needs, .inl (C 0, 12, .inl t_draft_needs))]
abbrev q_X5_readPair (D : va_G) (C : Nat → ClassId) (q : Nat) (q_draft : Nat) (q_text : Nat) (q_draft_weight : Nat) (q_draft_gain : Nat) (q_draft_joy : Nat) (q_draft_bars : Nat) (q_draft_needs : Nat) (t_length : Int32) (t_text : Nat → Int32) (t_draft_items : Int32) (t_draft_capacity : Int32) (t_draft_limit : Int32) (t_draft_mustSet : Int32) (t_draft_neverSet : Int32) (t_draft_hand : Int32) (Q : Int32 → Int32 → Int32 → Int32 → Int32 → Int32 → Int32 → (Nat → Int32) → (Nat → Int32) → Prop) (A : Nat → Prop) : Array Value → State → Outcome → State → Prop := va_Qi (fun (r : Int32) (u : Int32 × Int32 × Int32 × Int32 × Int32 × Int32 × (Nat → Int32) × (Nat → Int32)) => Q r u.1 u.2.1 u.2.2.1 u.2.2.2.1 u.2.2.2.2.1 u.2.2.2.2.2.1 u.2.2.2.2.2.2.1 u.2.2.2.2.2.2.2) (fun (u : Int32 × Int32 × Int32 × Int32 × Int32 × Int32 × (Nat → Int32) × (Nat → Int32)) (t : State) => va_P D vwCl (w_X5_readPair C q q_draft q_text q_draft_weight q_draft_gain q_draft_joy q_draft_bars q_draft_needs u.1 u.2.1 t_length u.2.2.1 u.2.2.2.1 u.2.2.2.2.1 u.2.2.2.2.2.1 t_text t_draft_items t_draft_capacity t_draft_limit t_draft_mustSet t_draft_neverSet t_draft_hand u.2.2.2.2.2.2.1 u.2.2.2.2.2.2.2) t.heap ∧ va_K D vwCl (tyL C) t ∧ va_D A (w_X5_readPair C q q_draft q_text q_draft_weight q_draft_gain q_draft_joy q_draft_bars q_draft_needs u.1 u.2.1 t_length u.2.2.1 u.2.2.2.1 u.2.2.2.2.1 u.2.2.2.2.2.1 t_text t_draft_items t_draft_capacity t_draft_limit t_draft_mustSet t_draft_neverSet t_draft_hand u.2.2.2.2.2.2.1 u.2.2.2.2.2.2.2)) A
set_option maxHeartbeats 4000000 in
set_option maxRecDepth 100000 in
theorem met_X5_readPair (l : Launch) (hst : l.stackTraces = false) (D : va_G) (C : Nat → ClassId) (q : Nat) (q_draft : Nat) (q_text : Nat) (q_draft_weight : Nat) (q_draft_gain : Nat) (q_draft_joy : Nat) (q_draft_bars : Nat) (q_draft_needs : Nat) (p1 : Int32) (t_code : Int32) (t_place : Int32) (t_length : Int32) (t_kind : Int32) (t_start : Int32) (t_next : Int32) (t_value : Int32) (t_text : Nat → Int32) (t_draft_items : Int32) (t_draft_capacity : Int32) (t_draft_limit : Int32) (t_draft_mustSet : Int32) (t_draft_neverSet : Int32) (t_draft_hand : Int32) (t_draft_bars : Nat → Int32) (t_draft_needs : Nat → Int32) (sz : Nat) (Q : Int32 → Int32 → Int32 → Int32 → Int32 → Int32 → Int32 → (Nat → Int32) → (Nat → Int32) → Prop) (hwp : wp_X5_readPair p1 t_code t_place t_length t_kind t_start t_next t_value t_text t_draft_items t_draft_bars t_draft_needs Q) : Met l yX5_readPair ws_X5_readPair rm_X5_readPair (va_Pc [.ref q, .int p1] (fun U => U.heap.size = sz ∧ va_P D vwCl (w_X5_readPair C q q_draft q_text q_draft_weight q_draft_gain q_draft_joy q_draft_bars q_draft_needs t_code t_place t_length t_kind t_start t_next t_value t_text t_draft_items t_draft_capacity t_draft_limit t_draft_mustSet t_draft_neverSet t_draft_hand t_draft_bars t_draft_needs) U.heap ∧ va_K D vwCl (tyL C) U ∧ va_D (fun _ => True) (w_X5_readPair C q q_draft q_text q_draft_weight q_draft_gain q_draft_joy q_draft_bars q_draft_needs t_code t_place t_length t_kind t_start t_next t_value t_text t_draft_items t_draft_capacity t_draft_limit t_draft_mustSet t_draft_neverSet t_draft_hand t_draft_bars t_draft_needs) ∧ TX (va_A (w_X5_readPair C q q_draft q_text q_draft_weight q_draft_gain q_draft_joy q_draft_bars q_draft_needs t_code t_place t_length t_kind t_start t_next t_value t_text t_draft_items t_draft_capacity t_draft_limit t_draft_mustSet t_draft_neverSet t_draft_hand t_draft_bars t_draft_needs) sz) U U.heap)) (q_X5_readPair D C q q_draft q_text q_draft_weight q_draft_gain q_draft_joy q_draft_bars q_draft_needs t_length t_text t_draft_items t_draft_capacity t_draft_limit t_draft_mustSet t_draft_neverSet t_draft_hand Q (va_A (w_X5_readPair C q q_draft q_text q_draft_weight q_draft_gain q_draft_joy q_draft_bars q_draft_needs t_code t_place t_length t_kind t_start t_next t_value t_text t_draft_items t_draft_capacity t_draft_limit t_draft_mustSet t_draft_neverSet t_draft_hand t_draft_bars t_draft_needs) sz)) 0 0 (va_A (w_X5_readPair C q q_draft q_text q_draft_weight q_draft_gain q_draft_joy q_draft_bars q_draft_needs t_code t_place t_length t_kind t_start t_next t_value t_text t_draft_items t_draft_capacity t_draft_limit t_draft_mustSet t_draft_neverSet t_draft_hand t_draft_bars t_draft_needs) sz) := by
  refine Met.ofW (cc := cX5_readPair) (maxL := 5) (ret := (some .boolean)) (by decide) rfl ?_
  intro p e s m args below meth c s₁ B hml hv
  obtain ⟨rfl, hsz, hP, hK, hD0, hT⟩ := hv
  have hx := B.exec
  have hb := B.bytes
  have hr := B.returns
  have hts : ∀ w ∈ WALL, w.before _ s = true := fun w h => atoms_spec (ws := ws_X5_readPair) B.pre w (List.mem_cons_of_mem _ h)
  have hown : s.vm.findClass RX5 = some m.cls := findClass_of_methodNamed B.named
  have hlocks := B.notSynchronized
  subst hsz
  have hD := hD0.self (sz := s.heap.size)
  generalize hAe : va_A (w_X5_readPair C q q_draft q_text q_draft_weight q_draft_gain q_draft_joy q_draft_bars q_draft_needs t_code t_place t_length t_kind t_start t_next t_value t_text t_draft_items t_draft_capacity t_draft_limit t_draft_mustSet t_draft_neverSet t_draft_hand t_draft_bars t_draft_needs) s.heap.size = A at hD ⊢ hT
  have hA : ∀ q : Nat, s.heap.size ≤ q → A q := fun q h => by rw [← hAe]; exact Or.inr h
  have hS : va_S A s.heap s.heap [] := va_S.rf
  have hl := lv_entry ([.ref q, .int p1]) (n := 5) (Nat.le_of_ble_eq_true rfl)
  rw [lg_entry_eq]
  generalize (lg_sl ([.ref q, .int p1]) ++ List.replicate (5 - (lg_sl ([.ref q, .int p1])).length) Slot.unset).toArray = ls at hl ⊢
  have hl : lv_has ls 5 [(0, .ref q), (1, .int p1)] := hl
  have HB85 : ∀  (t_code : Int32) (t_place : Int32) (t_kind : Int32) (t_start : Int32) (t_next : Int32) (t_value : Int32) (t_draft_bars : Nat → Int32) (t_draft_needs : Nat → Int32) (H : Heap) (locs : List Loc) (ls : Array Slot), lv_has ls 5 [(0, .ref q)] → va_P D vwCl [(q, .inr (5, [.ref q_draft, .int t_code, .int t_place, .ref q_text, .int t_length, .int t_kind, .int t_start, .int t_next, .int t_value])), (q_text, .inl (C 1, 600, .inl t_text)), (q_draft, .inr (8, [.int t_draft_items, .int t_draft_capacity, .int t_draft_limit, .int t_draft_mustSet, .int t_draft_neverSet, .int t_draft_hand, .ref q_draft_weight, .ref q_draft_gain, .ref q_draft_joy, .ref q_draft_bars, .ref q_draft_needs])), (q_draft_bars, .inl (C 0, 12, .inl t_draft_bars)), (q_draft_needs, .inl (C 0, 12, .inl t_draft_needs))] H → va_D A [(q, .inr (5, [.ref q_draft, .int t_code, .int t_place, .ref q_text, .int t_length, .int t_kind, .int t_start, .int t_next, .int t_value])), (q_text, .inl (C 1, 600, .inl t_text)), (q_draft, .inr (8, [.int t_draft_items, .int t_draft_capacity, .int t_draft_limit, .int t_draft_mustSet, .int t_draft_neverSet, .int t_draft_hand, .ref q_draft_weight, .ref q_draft_gain, .ref q_draft_joy, .ref q_draft_bars, .ref q_draft_needs])), (q_draft_bars, .inl (C 0, 12, .inl t_draft_bars)), (q_draft_needs, .inl (C 0, 12, .inl t_draft_needs))] → va_S A s.heap H locs → wp_X5_readPair_b85 t_length t_text t_draft_items Q t_code t_place t_kind t_start t_next t_value t_draft_bars t_draft_needs → W p l e (headSpec ws_X5_readPair rm_X5_readPair).room s m ([.ref q, .int p1] : List Value).toArray below meth c H locs 0 0 (MQ below (q_X5_readPair D C q q_draft q_text q_draft_weight q_draft_gain q_draft_joy q_draft_bars q_draft_needs t_length t_text t_draft_items t_draft_capacity t_draft_limit t_draft_mustSet t_draft_neverSet t_draft_hand Q A) ([.ref q, .int p1] : List Value).toArray s 0 0 A) (F0 m 85 ls []) := by
    intro t_code t_place t_kind t_start t_next t_value t_draft_bars t_draft_needs H locs ls hl hP hD hS hwp
    unfold wp_X5_readPair_b85 at hwp
    refine lv_aload_n hx hb dX5_readPair_85 rfl (lv_at hl 0 rfl) ?_
    refine lv_iconst (v := 3) hx hb dX5_readPair_86 (by decide) ?_
    have hPc := hP.sub (ws' := [(q, .inr (5, [.ref q_draft, .int t_code, .int t_place, .ref q_text, .int t_length, .int t_kind, .int t_start, .int t_next, .int t_value]))]) [0] rfl
    have hDc := hD.sub (ws' := [(q, .inr (5, [.ref q_draft, .int t_code, .int t_place, .ref q_text, .int t_length, .int t_kind, .int t_start, .int t_next, .int t_value]))]) [0] (by decide) rfl
    have hFc := va_free (wc := [(q, .inr (5, [.ref q_draft, .int t_code, .int t_place, .ref q_text, .int t_length, .int t_kind, .int t_start, .int t_next, .int t_value]))]) hD hS hA [0] rfl
    refine va_calli (va_runV (As := [.int (3 : Int32)]) (rest := []) ⟨hx, hb, hml, hown, hts⟩ (met_X5_fail l D C q q_draft q_text (3 : Int32) t_code t_place t_length t_kind t_start t_next t_value H.size _ hwp) (cwV 1 hts gc_X5_90 rfl rfl rfl (by decide +kernel) ⟨Nat.le_of_ble_eq_true rfl, Nat.le_of_ble_eq_true rfl⟩) ⟨fun a U g mk q => by obtain ⟨q0, q1, qP, qK, qD⟩ := q; exact ⟨q0, q1, qP, va_K.moved (u := U) (U := U.calling g mk a) (Vm.Alike.refl U.vm) qK, qD⟩, va_recv hK hPc (ci := 5) (q0 := 0) rfl rfl, fun U hU hW => ⟨rfl, by rw [hU], by rw [hU]; exact hPc, va_K.moved hW.alike hK, hDc.weaken (fun _ _ _ _ => trivial)⟩⟩ rfl rfl hl.1 rfl (lv_room (Nat.le_of_ble_eq_true rfl)) dX5_readPair_87 ⟨Nat.zero_le _, Nat.zero_le _⟩) hS (fun q _ h => hFc q h) hFc (fun r87 u t H1 locs ht hvm hwp hB hz1 hk1 hS => ?_)
    obtain ⟨u87_13, u87_14⟩ := u
    obtain ⟨hP1, -, hD1⟩ := hB
    rw [ht] at hP1
    obtain ⟨hP, hD⟩ := va_join (wr := [(q_text, .inl (C 1, 600, .inl t_text)), (q_draft, .inr (8, [.int t_draft_items, .int t_draft_capacity, .int t_draft_limit, .int t_draft_mustSet, .int t_draft_neverSet, .int t_draft_hand, .ref q_draft_weight, .ref q_draft_gain, .ref q_draft_joy, .ref q_draft_bars, .ref q_draft_needs])), (q_draft_bars, .inl (C 0, 12, .inl t_draft_bars)), (q_draft_needs, .inl (C 0, 12, .inl t_draft_needs))]) (w1 := [(q, .inr (5, [.ref q_draft, .int u87_13, .int u87_14, .ref q_text, .int t_length, .int t_kind, .int t_start, .int t_next, .int t_value]))]) hP hD [0] [1, 2, 3, 4] rfl rfl (by decide) (by decide) hk1 hFc hP1 hD1
    generalize H1 = H at hP hS ⊢
    have hP : va_P D vwCl [(q_text, .inl (C 1, 600, .inl t_text)), (q_draft, .inr (8, [.int t_draft_items, .int t_draft_capacity, .int t_draft_limit, .int t_draft_mustSet, .int t_draft_neverSet, .int t_draft_hand, .ref q_draft_weight, .ref q_draft_gain, .ref q_draft_joy, .ref q_draft_bars, .ref q_draft_needs])), (q_draft_bars, .inl (C 0, 12, .inl t_draft_bars)), (q_draft_needs, .inl (C 0, 12, .inl t_draft_needs)), (q, .inr (5, [.ref q_draft, .int u87_13, .int u87_14, .ref q_text, .int t_length, .int t_kind, .int t_start, .int t_next, .int t_value]))] H := hP
    have hD : va_D A [(q_text, .inl (C 1, 600, .inl t_text)), (q_draft, .inr (8, [.int t_draft_items, .int t_draft_capacity, .int t_draft_limit, .int t_draft_mustSet, .int t_draft_neverSet, .int t_draft_hand, .ref q_draft_weight, .ref q_draft_gain, .ref q_draft_joy, .ref q_draft_bars, .ref q_draft_needs])), (q_draft_bars, .inl (C 0, 12, .inl t_draft_bars)), (q_draft_needs, .inl (C 0, 12, .inl t_draft_needs)), (q, .inr (5, [.ref q_draft, .int u87_13, .int u87_14, .ref q_text, .int t_length, .int t_kind, .int t_start, .int t_next, .int t_value]))] := hD
    have hP9 := hP.sub (ws' := [(q, .inr (5, [.ref q_draft, .int u87_13, .int u87_14, .ref q_text, .int t_length, .int t_kind, .int t_start, .int t_next, .int t_value])), (q_text, .inl (C 1, 600, .inl t_text)), (q_draft, .inr (8, [.int t_draft_items, .int t_draft_capacity, .int t_draft_limit, .int t_draft_mustSet, .int t_draft_neverSet, .int t_draft_hand, .ref q_draft_weight, .ref q_draft_gain, .ref q_draft_joy, .ref q_draft_bars, .ref q_draft_needs])), (q_draft_bars, .inl (C 0, 12, .inl t_draft_bars)), (q_draft_needs, .inl (C 0, 12, .inl t_draft_needs))]) [4, 0, 1, 2, 3] rfl
    have hD9 := hD.sub (ws' := [(q, .inr (5, [.ref q_draft, .int u87_13, .int u87_14, .ref q_text, .int t_length, .int t_kind, .int t_start, .int t_next, .int t_value])), (q_text, .inl (C 1, 600, .inl t_text)), (q_draft, .inr (8, [.int t_draft_items, .int t_draft_capacity, .int t_draft_limit, .int t_draft_mustSet, .int t_draft_neverSet, .int t_draft_hand, .ref q_draft_weight, .ref q_draft_gain, .ref q_draft_joy, .ref q_draft_bars, .ref q_draft_needs])), (q_draft_bars, .inl (C 0, 12, .inl t_draft_bars)), (q_draft_needs, .inl (C 0, 12, .inl t_draft_needs))]) [4, 0, 1, 2, 3] (by decide) rfl
    obtain ⟨hn9, hwp⟩ := hwp
    exact W.zret (v := r87) (ty := .boolean) hx hb hr hn9 (fun t ht hW => ⟨⟨r87, (u87_13, u87_14, t_kind, t_start, t_next, t_value, t_draft_bars, t_draft_needs), rfl, hwp, by rw [ht]; exact hP9, va_K.moved hW.alike hK, hD9⟩, hS.F ht⟩) hS.2.2 dX5_readPair_90
  have HB121 : ∀  (t_code : Int32) (t_place : Int32) (t_kind : Int32) (t_start : Int32) (t_next : Int32) (t_value : Int32) (t_draft_bars : Nat → Int32) (t_draft_needs : Nat → Int32) (H : Heap) (locs : List Loc) (ls : Array Slot), lv_has ls 5 [(0, .ref q)] → va_P D vwCl [(q, .inr (5, [.ref q_draft, .int t_code, .int t_place, .ref q_text, .int t_length, .int t_kind, .int t_start, .int t_next, .int t_value])), (q_text, .inl (C 1, 600, .inl t_text)), (q_draft, .inr (8, [.int t_draft_items, .int t_draft_capacity, .int t_draft_limit, .int t_draft_mustSet, .int t_draft_neverSet, .int t_draft_hand, .ref q_draft_weight, .ref q_draft_gain, .ref q_draft_joy, .ref q_draft_bars, .ref q_draft_needs])), (q_draft_bars, .inl (C 0, 12, .inl t_draft_bars)), (q_draft_needs, .inl (C 0, 12, .inl t_draft_needs))] H → va_D A [(q, .inr (5, [.ref q_draft, .int t_code, .int t_place, .ref q_text, .int t_length, .int t_kind, .int t_start, .int t_next, .int t_value])), (q_text, .inl (C 1, 600, .inl t_text)), (q_draft, .inr (8, [.int t_draft_items, .int t_draft_capacity, .int t_draft_limit, .int t_draft_mustSet, .int t_draft_neverSet, .int t_draft_hand, .ref q_draft_weight, .ref q_draft_gain, .ref q_draft_joy, .ref q_draft_bars, .ref q_draft_needs])), (q_draft_bars, .inl (C 0, 12, .inl t_draft_bars)), (q_draft_needs, .inl (C 0, 12, .inl t_draft_needs))] → va_S A s.heap H locs → wp_X5_readPair_b121 t_length t_text t_draft_items Q t_code t_place t_kind t_start t_next t_value t_draft_bars t_draft_needs → W p l e (headSpec ws_X5_readPair rm_X5_readPair).room s m ([.ref q, .int p1] : List Value).toArray below meth c H locs 0 0 (MQ below (q_X5_readPair D C q q_draft q_text q_draft_weight q_draft_gain q_draft_joy q_draft_bars q_draft_needs t_length t_text t_draft_items t_draft_capacity t_draft_limit t_draft_mustSet t_draft_neverSet t_draft_hand Q A) ([.ref q, .int p1] : List Value).toArray s 0 0 A) (F0 m 121 ls []) := by
    intro t_code t_place t_kind t_start t_next t_value t_draft_bars t_draft_needs H locs ls hl hP hD hS hwp
    unfold wp_X5_readPair_b121 at hwp
    refine lv_aload_n hx hb dX5_readPair_121 rfl (lv_at hl 0 rfl) ?_
    have hPc := hP.sub (ws' := [(q, .inr (5, [.ref q_draft, .int t_code, .int t_place, .ref q_text, .int t_length, .int t_kind, .int t_start, .int t_next, .int t_value])), (q_text, .inl (C 1, 600, .inl t_text))]) [0, 1] rfl
    have hDc := hD.sub (ws' := [(q, .inr (5, [.ref q_draft, .int t_code, .int t_place, .ref q_text, .int t_length, .int t_kind, .int t_start, .int t_next, .int t_value])), (q_text, .inl (C 1, 600, .inl t_text))]) [0, 1] (by decide) rfl
    have hFc := va_free (wc := [(q, .inr (5, [.ref q_draft, .int t_code, .int t_place, .ref q_text, .int t_length, .int t_kind, .int t_start, .int t_next, .int t_value])), (q_text, .inl (C 1, 600, .inl t_text))]) hD hS hA [0, 1] rfl
    refine va_callv (va_runV (As := []) (rest := []) ⟨hx, hb, hml, hown, hts⟩ (met_X5_advance l D C q q_draft q_text t_code t_place t_length t_kind t_start t_next t_value t_text H.size _ hwp) (cwV 0 hts gc_X5_44 rfl rfl rfl (by decide +kernel) ⟨Nat.le_of_ble_eq_true rfl, Nat.le_of_ble_eq_true rfl⟩) ⟨fun a U g mk q => by obtain ⟨q0, q1, qP, qK, qD⟩ := q; exact ⟨q0, q1, qP, va_K.moved (u := U) (U := U.calling g mk a) (Vm.Alike.refl U.vm) qK, qD⟩, va_recv hK hPc (ci := 5) (q0 := 0) rfl rfl, fun U hU hW => ⟨rfl, by rw [hU], by rw [hU]; exact hPc, va_K.moved hW.alike hK, hDc.weaken (fun _ _ _ _ => trivial)⟩⟩ rfl rfl hl.1 rfl (lv_room (Nat.le_of_ble_eq_true rfl)) dX5_readPair_122 ⟨Nat.zero_le _, Nat.zero_le _⟩) hS (fun q _ h => hFc q h) hFc (fun u t H1 locs ht hvm hwp hB hz1 hk1 hS => ?_)
    obtain ⟨u122_15, u122_16, u122_17, u122_18⟩ := u
    obtain ⟨hP1, -, hD1⟩ := hB
    rw [ht] at hP1
    obtain ⟨hP, hD⟩ := va_join (wr := [(q_draft, .inr (8, [.int t_draft_items, .int t_draft_capacity, .int t_draft_limit, .int t_draft_mustSet, .int t_draft_neverSet, .int t_draft_hand, .ref q_draft_weight, .ref q_draft_gain, .ref q_draft_joy, .ref q_draft_bars, .ref q_draft_needs])), (q_draft_bars, .inl (C 0, 12, .inl t_draft_bars)), (q_draft_needs, .inl (C 0, 12, .inl t_draft_needs))]) (w1 := [(q, .inr (5, [.ref q_draft, .int t_code, .int t_place, .ref q_text, .int t_length, .int u122_15, .int u122_16, .int u122_17, .int u122_18])), (q_text, .inl (C 1, 600, .inl t_text))]) hP hD [0, 1] [2, 3, 4] rfl rfl (by decide) (by decide) hk1 hFc hP1 hD1
    generalize H1 = H at hP hS ⊢
    have hP : va_P D vwCl [(q_draft, .inr (8, [.int t_draft_items, .int t_draft_capacity, .int t_draft_limit, .int t_draft_mustSet, .int t_draft_neverSet, .int t_draft_hand, .ref q_draft_weight, .ref q_draft_gain, .ref q_draft_joy, .ref q_draft_bars, .ref q_draft_needs])), (q_draft_bars, .inl (C 0, 12, .inl t_draft_bars)), (q_draft_needs, .inl (C 0, 12, .inl t_draft_needs)), (q, .inr (5, [.ref q_draft, .int t_code, .int t_place, .ref q_text, .int t_length, .int u122_15, .int u122_16, .int u122_17, .int u122_18])), (q_text, .inl (C 1, 600, .inl t_text))] H := hP
    have hD : va_D A [(q_draft, .inr (8, [.int t_draft_items, .int t_draft_capacity, .int t_draft_limit, .int t_draft_mustSet, .int t_draft_neverSet, .int t_draft_hand, .ref q_draft_weight, .ref q_draft_gain, .ref q_draft_joy, .ref q_draft_bars, .ref q_draft_needs])), (q_draft_bars, .inl (C 0, 12, .inl t_draft_bars)), (q_draft_needs, .inl (C 0, 12, .inl t_draft_needs)), (q, .inr (5, [.ref q_draft, .int t_code, .int t_place, .ref q_text, .int t_length, .int u122_15, .int u122_16, .int u122_17, .int u122_18])), (q_text, .inl (C 1, 600, .inl t_text))] := hD
    refine lv_aload_n hx hb dX5_readPair_125 rfl (lv_at hl 0 rfl) ?_
    have hPc := hP.sub (ws' := [(q, .inr (5, [.ref q_draft, .int t_code, .int t_place, .ref q_text, .int t_length, .int u122_15, .int u122_16, .int u122_17, .int u122_18])), (q_text, .inl (C 1, 600, .inl t_text))]) [3, 4] rfl
    have hDc := hD.sub (ws' := [(q, .inr (5, [.ref q_draft, .int t_code, .int t_place, .ref q_text, .int t_length, .int u122_15, .int u122_16, .int u122_17, .int u122_18])), (q_text, .inl (C 1, 600, .inl t_text))]) [3, 4] (by decide) rfl
    have hFc := va_free (wc := [(q, .inr (5, [.ref q_draft, .int t_code, .int t_place, .ref q_text, .int t_length, .int u122_15, .int u122_16, .int u122_17, .int u122_18])), (q_text, .inl (C 1, 600, .inl t_text))]) hD hS hA [3, 4] rfl
    refine va_calli (va_runV (As := []) (rest := []) ⟨hx, hb, hml, hown, hts⟩ (met_X5_passEnd l D C q q_draft q_text t_code t_place t_length u122_15 u122_16 u122_17 u122_18 t_text H.size _ hwp) (cwV 0 hts gc_X5_112 rfl rfl rfl (by decide +kernel) ⟨Nat.le_of_ble_eq_true rfl, Nat.le_of_ble_eq_true rfl⟩) ⟨fun a U g mk q => by obtain ⟨q0, q1, qP, qK, qD⟩ := q; exact ⟨q0, q1, qP, va_K.moved (u := U) (U := U.calling g mk a) (Vm.Alike.refl U.vm) qK, qD⟩, va_recv hK hPc (ci := 5) (q0 := 0) rfl rfl, fun U hU hW => ⟨rfl, by rw [hU], by rw [hU]; exact hPc, va_K.moved hW.alike hK, hDc.weaken (fun _ _ _ _ => trivial)⟩⟩ rfl rfl hl.1 rfl (lv_room (Nat.le_of_ble_eq_true rfl)) dX5_readPair_126 ⟨Nat.zero_le _, Nat.zero_le _⟩) hS (fun q _ h => hFc q h) hFc (fun r126 u t H1 locs ht hvm hwp hB hz1 hk1 hS => ?_)
    obtain ⟨u126_19, u126_20, u126_21, u126_22, u126_23, u126_24⟩ := u
    obtain ⟨hP1, -, hD1⟩ := hB
    rw [ht] at hP1
    obtain ⟨hP, hD⟩ := va_join (wr := [(q_draft, .inr (8, [.int t_draft_items, .int t_draft_capacity, .int t_draft_limit, .int t_draft_mustSet, .int t_draft_neverSet, .int t_draft_hand, .ref q_draft_weight, .ref q_draft_gain, .ref q_draft_joy, .ref q_draft_bars, .ref q_draft_needs])), (q_draft_bars, .inl (C 0, 12, .inl t_draft_bars)), (q_draft_needs, .inl (C 0, 12, .inl t_draft_needs))]) (w1 := [(q, .inr (5, [.ref q_draft, .int u126_19, .int u126_20, .ref q_text, .int t_length, .int u126_21, .int u126_22, .int u126_23, .int u126_24])), (q_text, .inl (C 1, 600, .inl t_text))]) hP hD [3, 4] [0, 1, 2] rfl rfl (by decide) (by decide) hk1 hFc hP1 hD1
    generalize H1 = H at hP hS ⊢
    have hP : va_P D vwCl [(q_draft, .inr (8, [.int t_draft_items, .int t_draft_capacity, .int t_draft_limit, .int t_draft_mustSet, .int t_draft_neverSet, .int t_draft_hand, .ref q_draft_weight, .ref q_draft_gain, .ref q_draft_joy, .ref q_draft_bars, .ref q_draft_needs])), (q_draft_bars, .inl (C 0, 12, .inl t_draft_bars)), (q_draft_needs, .inl (C 0, 12, .inl t_draft_needs)), (q, .inr (5, [.ref q_draft, .int u126_19, .int u126_20, .ref q_text, .int t_length, .int u126_21, .int u126_22, .int u126_23, .int u126_24])), (q_text, .inl (C 1, 600, .inl t_text))] H := hP
    have hD : va_D A [(q_draft, .inr (8, [.int t_draft_items, .int t_draft_capacity, .int t_draft_limit, .int t_draft_mustSet, .int t_draft_neverSet, .int t_draft_hand, .ref q_draft_weight, .ref q_draft_gain, .ref q_draft_joy, .ref q_draft_bars, .ref q_draft_needs])), (q_draft_bars, .inl (C 0, 12, .inl t_draft_bars)), (q_draft_needs, .inl (C 0, 12, .inl t_draft_needs)), (q, .inr (5, [.ref q_draft, .int u126_19, .int u126_20, .ref q_text, .int t_length, .int u126_21, .int u126_22, .int u126_23, .int u126_24])), (q_text, .inl (C 1, 600, .inl t_text))] := hD
    have hP9 := hP.sub (ws' := [(q, .inr (5, [.ref q_draft, .int u126_19, .int u126_20, .ref q_text, .int t_length, .int u126_21, .int u126_22, .int u126_23, .int u126_24])), (q_text, .inl (C 1, 600, .inl t_text)), (q_draft, .inr (8, [.int t_draft_items, .int t_draft_capacity, .int t_draft_limit, .int t_draft_mustSet, .int t_draft_neverSet, .int t_draft_hand, .ref q_draft_weight, .ref q_draft_gain, .ref q_draft_joy, .ref q_draft_bars, .ref q_draft_needs])), (q_draft_bars, .inl (C 0, 12, .inl t_draft_bars)), (q_draft_needs, .inl (C 0, 12, .inl t_draft_needs))]) [3, 4, 0, 1, 2] rfl
    have hD9 := hD.sub (ws' := [(q, .inr (5, [.ref q_draft, .int u126_19, .int u126_20, .ref q_text, .int t_length, .int u126_21, .int u126_22, .int u126_23, .int u126_24])), (q_text, .inl (C 1, 600, .inl t_text)), (q_draft, .inr (8, [.int t_draft_items, .int t_draft_capacity, .int t_draft_limit, .int t_draft_mustSet, .int t_draft_neverSet, .int t_draft_hand, .ref q_draft_weight, .ref q_draft_gain, .ref q_draft_joy, .ref q_draft_bars, .ref q_draft_needs])), (q_draft_bars, .inl (C 0, 12, .inl t_draft_bars)), (q_draft_needs, .inl (C 0, 12, .inl t_draft_needs))]) [3, 4, 0, 1, 2] (by decide) rfl
    obtain ⟨hn9, hwp⟩ := hwp
    exact W.zret (v := r126) (ty := .boolean) hx hb hr hn9 (fun t ht hW => ⟨⟨r126, (u126_19, u126_20, u126_21, u126_22, u126_23, u126_24, t_draft_bars, t_draft_needs), rfl, hwp, by rw [ht]; exact hP9, va_K.moved hW.alike hK, hD9⟩, hS.F ht⟩) hS.2.2 dX5_readPair_129
  unfold wp_X5_readPair at hwp
  obtain ⟨H, hH⟩ : ∃ H, H = s.heap := ⟨_, rfl⟩
  obtain ⟨locs, hlo⟩ : ∃ z : List Loc, z = [] := ⟨_, rfl⟩
  have hP : va_P D vwCl [(q, .inr (5, [.ref q_draft, .int t_code, .int t_place, .ref q_text, .int t_length, .int t_kind, .int t_start, .int t_next, .int t_value])), (q_text, .inl (C 1, 600, .inl t_text)), (q_draft, .inr (8, [.int t_draft_items, .int t_draft_capacity, .int t_draft_limit, .int t_draft_mustSet, .int t_draft_neverSet, .int t_draft_hand, .ref q_draft_weight, .ref q_draft_gain, .ref q_draft_joy, .ref q_draft_bars, .ref q_draft_needs])), (q_draft_bars, .inl (C 0, 12, .inl t_draft_bars)), (q_draft_needs, .inl (C 0, 12, .inl t_draft_needs))] H := by rw [hH]; exact hP
  have hD : va_D A [(q, .inr (5, [.ref q_draft, .int t_code, .int t_place, .ref q_text, .int t_length, .int t_kind, .int t_start, .int t_next, .int t_value])), (q_text, .inl (C 1, 600, .inl t_text)), (q_draft, .inr (8, [.int t_draft_items, .int t_draft_capacity, .int t_draft_limit, .int t_draft_mustSet, .int t_draft_neverSet, .int t_draft_hand, .ref q_draft_weight, .ref q_draft_gain, .ref q_draft_joy, .ref q_draft_bars, .ref q_draft_needs])), (q_draft_bars, .inl (C 0, 12, .inl t_draft_bars)), (q_draft_needs, .inl (C 0, 12, .inl t_draft_needs))] := hD
  have hS : va_S A s.heap H locs := by rw [hH, hlo]; exact hS
  suffices K : W p l e (headSpec ws_X5_readPair rm_X5_readPair).room s m ([.ref q, .int p1] : List Value).toArray below meth c H locs 0 0 (MQ below (q_X5_readPair D C q q_draft q_text q_draft_weight q_draft_gain q_draft_joy q_draft_bars q_draft_needs t_length t_text t_draft_items t_draft_capacity t_draft_limit t_draft_mustSet t_draft_neverSet t_draft_hand Q A) ([.ref q, .int p1] : List Value).toArray s 0 0 A) (F0 m 0 ls []) from by rw [hH, hlo] at K; exact K
  refine lv_aload_n hx hb dX5_readPair_0 rfl (lv_at hl 0 rfl) ?_
  have hPc := hP.sub (ws' := [(q, .inr (5, [.ref q_draft, .int t_code, .int t_place, .ref q_text, .int t_length, .int t_kind, .int t_start, .int t_next, .int t_value])), (q_text, .inl (C 1, 600, .inl t_text))]) [0, 1] rfl
  have hDc := hD.sub (ws' := [(q, .inr (5, [.ref q_draft, .int t_code, .int t_place, .ref q_text, .int t_length, .int t_kind, .int t_start, .int t_next, .int t_value])), (q_text, .inl (C 1, 600, .inl t_text))]) [0, 1] (by decide) rfl
  have hFc := va_free (wc := [(q, .inr (5, [.ref q_draft, .int t_code, .int t_place, .ref q_text, .int t_length, .int t_kind, .int t_start, .int t_next, .int t_value])), (q_text, .inl (C 1, 600, .inl t_text))]) hD hS hA [0, 1] rfl
  refine va_callv (va_runV (As := []) (rest := []) ⟨hx, hb, hml, hown, hts⟩ (met_X5_advance l D C q q_draft q_text t_code t_place t_length t_kind t_start t_next t_value t_text H.size _ hwp) (cwV 0 hts gc_X5_44 rfl rfl rfl (by decide +kernel) ⟨Nat.le_of_ble_eq_true rfl, Nat.le_of_ble_eq_true rfl⟩) ⟨fun a U g mk q => by obtain ⟨q0, q1, qP, qK, qD⟩ := q; exact ⟨q0, q1, qP, va_K.moved (u := U) (U := U.calling g mk a) (Vm.Alike.refl U.vm) qK, qD⟩, va_recv hK hPc (ci := 5) (q0 := 0) rfl rfl, fun U hU hW => ⟨rfl, by rw [hU], by rw [hU]; exact hPc, va_K.moved hW.alike hK, hDc.weaken (fun _ _ _ _ => trivial)⟩⟩ rfl rfl hl.1 rfl (lv_room (Nat.le_of_ble_eq_true rfl)) dX5_readPair_1 ⟨Nat.zero_le _, Nat.zero_le _⟩) hS (fun q _ h => hFc q h) hFc (fun u t H1 locs ht hvm hwp hB hz1 hk1 hS => ?_)
  obtain ⟨u1_1, u1_2, u1_3, u1_4⟩ := u
  obtain ⟨hP1, -, hD1⟩ := hB
  rw [ht] at hP1
  obtain ⟨hP, hD⟩ := va_join (wr := [(q_draft, .inr (8, [.int t_draft_items, .int t_draft_capacity, .int t_draft_limit, .int t_draft_mustSet, .int t_draft_neverSet, .int t_draft_hand, .ref q_draft_weight, .ref q_draft_gain, .ref q_draft_joy, .ref q_draft_bars, .ref q_draft_needs])), (q_draft_bars, .inl (C 0, 12, .inl t_draft_bars)), (q_draft_needs, .inl (C 0, 12, .inl t_draft_needs))]) (w1 := [(q, .inr (5, [.ref q_draft, .int t_code, .int t_place, .ref q_text, .int t_length, .int u1_1, .int u1_2, .int u1_3, .int u1_4])), (q_text, .inl (C 1, 600, .inl t_text))]) hP hD [0, 1] [2, 3, 4] rfl rfl (by decide) (by decide) hk1 hFc hP1 hD1
  generalize H1 = H at hP hS ⊢
  have hP : va_P D vwCl [(q_draft, .inr (8, [.int t_draft_items, .int t_draft_capacity, .int t_draft_limit, .int t_draft_mustSet, .int t_draft_neverSet, .int t_draft_hand, .ref q_draft_weight, .ref q_draft_gain, .ref q_draft_joy, .ref q_draft_bars, .ref q_draft_needs])), (q_draft_bars, .inl (C 0, 12, .inl t_draft_bars)), (q_draft_needs, .inl (C 0, 12, .inl t_draft_needs)), (q, .inr (5, [.ref q_draft, .int t_code, .int t_place, .ref q_text, .int t_length, .int u1_1, .int u1_2, .int u1_3, .int u1_4])), (q_text, .inl (C 1, 600, .inl t_text))] H := hP
  have hD : va_D A [(q_draft, .inr (8, [.int t_draft_items, .int t_draft_capacity, .int t_draft_limit, .int t_draft_mustSet, .int t_draft_neverSet, .int t_draft_hand, .ref q_draft_weight, .ref q_draft_gain, .ref q_draft_joy, .ref q_draft_bars, .ref q_draft_needs])), (q_draft_bars, .inl (C 0, 12, .inl t_draft_bars)), (q_draft_needs, .inl (C 0, 12, .inl t_draft_needs)), (q, .inr (5, [.ref q_draft, .int t_code, .int t_place, .ref q_text, .int t_length, .int u1_1, .int u1_2, .int u1_3, .int u1_4])), (q_text, .inl (C 1, 600, .inl t_text))] := hD
  refine lv_aload_n hx hb dX5_readPair_4 rfl (lv_at hl 0 rfl) ?_
  refine lv_aload_n hx hb dX5_readPair_5 rfl (lv_at hl 0 rfl) ?_
  refine va_get (D := D) (ci := 5) (v := .ref q_draft) (C := RX5) (T := TX5) (N := 9) hx hb hts iwX5 hown hK hP 3 rfl rfl 0 (by decide) (hts (.fieldLink RX5 12 "ParetoDesk$Parser" "draft" "LParetoDesk$Setup;") wd_147) (fun _ h9 => h9) rfl dX5_readPair_6 ?_
  refine va_get (D := D) (ci := 8) (v := .int t_draft_items) (C := RX8) (T := TX8) (N := 11) hx hb hts iwX8 hown hK hP 0 rfl rfl 0 (by decide) (hts (.fieldLink RX5 135 "ParetoDesk$Setup" "items" "I") wd_87) (fun _ h9 => h9) rfl dX5_readPair_9 ?_
  refine lv_iconst (v := 1) hx hb dX5_readPair_12 (by decide) ?_
  refine lv_isub hx hb dX5_readPair_13 ?_
  have hPc := hP.sub (ws' := [(q, .inr (5, [.ref q_draft, .int t_code, .int t_place, .ref q_text, .int t_length, .int u1_1, .int u1_2, .int u1_3, .int u1_4])), (q_text, .inl (C 1, 600, .inl t_text))]) [3, 4] rfl
  have hDc := hD.sub (ws' := [(q, .inr (5, [.ref q_draft, .int t_code, .int t_place, .ref q_text, .int t_length, .int u1_1, .int u1_2, .int u1_3, .int u1_4])), (q_text, .inl (C 1, 600, .inl t_text))]) [3, 4] (by decide) rfl
  have hFc := va_free (wc := [(q, .inr (5, [.ref q_draft, .int t_code, .int t_place, .ref q_text, .int t_length, .int u1_1, .int u1_2, .int u1_3, .int u1_4])), (q_text, .inl (C 1, 600, .inl t_text))]) hD hS hA [3, 4] rfl
  refine va_calli (va_runV (As := [.int (t_draft_items - (1 : Int32))]) (rest := []) ⟨hx, hb, hml, hown, hts⟩ (met_X5_passNumber l D C q q_draft q_text (t_draft_items - (1 : Int32)) t_code t_place t_length u1_1 u1_2 u1_3 u1_4 t_text H.size _ hwp) (cwV 1 hts gc_X5_102 rfl rfl rfl (by decide +kernel) ⟨Nat.le_of_ble_eq_true rfl, Nat.le_of_ble_eq_true rfl⟩) ⟨fun a U g mk q => by obtain ⟨q0, q1, qP, qK, qD⟩ := q; exact ⟨q0, q1, qP, va_K.moved (u := U) (U := U.calling g mk a) (Vm.Alike.refl U.vm) qK, qD⟩, va_recv hK hPc (ci := 5) (q0 := 0) rfl rfl, fun U hU hW => ⟨rfl, by rw [hU], by rw [hU]; exact hPc, va_K.moved hW.alike hK, hDc.weaken (fun _ _ _ _ => trivial)⟩⟩ rfl rfl hl.1 rfl (lv_room (Nat.le_of_ble_eq_true rfl)) dX5_readPair_14 ⟨Nat.zero_le _, Nat.zero_le _⟩) hS (fun q _ h => hFc q h) hFc (fun r14 u t H1 locs ht hvm hwp hB hz1 hk1 hS => ?_)
  obtain ⟨u14_5, u14_6, u14_7, u14_8, u14_9, u14_10⟩ := u
  obtain ⟨hP1, -, hD1⟩ := hB
  rw [ht] at hP1
  obtain ⟨hP, hD⟩ := va_join (wr := [(q_draft, .inr (8, [.int t_draft_items, .int t_draft_capacity, .int t_draft_limit, .int t_draft_mustSet, .int t_draft_neverSet, .int t_draft_hand, .ref q_draft_weight, .ref q_draft_gain, .ref q_draft_joy, .ref q_draft_bars, .ref q_draft_needs])), (q_draft_bars, .inl (C 0, 12, .inl t_draft_bars)), (q_draft_needs, .inl (C 0, 12, .inl t_draft_needs))]) (w1 := [(q, .inr (5, [.ref q_draft, .int u14_5, .int u14_6, .ref q_text, .int t_length, .int u14_7, .int u14_8, .int u14_9, .int u14_10])), (q_text, .inl (C 1, 600, .inl t_text))]) hP hD [3, 4] [0, 1, 2] rfl rfl (by decide) (by decide) hk1 hFc hP1 hD1
  generalize H1 = H at hP hS ⊢
  have hP : va_P D vwCl [(q_draft, .inr (8, [.int t_draft_items, .int t_draft_capacity, .int t_draft_limit, .int t_draft_mustSet, .int t_draft_neverSet, .int t_draft_hand, .ref q_draft_weight, .ref q_draft_gain, .ref q_draft_joy, .ref q_draft_bars, .ref q_draft_needs])), (q_draft_bars, .inl (C 0, 12, .inl t_draft_bars)), (q_draft_needs, .inl (C 0, 12, .inl t_draft_needs)), (q, .inr (5, [.ref q_draft, .int u14_5, .int u14_6, .ref q_text, .int t_length, .int u14_7, .int u14_8, .int u14_9, .int u14_10])), (q_text, .inl (C 1, 600, .inl t_text))] H := hP
  have hD : va_D A [(q_draft, .inr (8, [.int t_draft_items, .int t_draft_capacity, .int t_draft_limit, .int t_draft_mustSet, .int t_draft_neverSet, .int t_draft_hand, .ref q_draft_weight, .ref q_draft_gain, .ref q_draft_joy, .ref q_draft_bars, .ref q_draft_needs])), (q_draft_bars, .inl (C 0, 12, .inl t_draft_bars)), (q_draft_needs, .inl (C 0, 12, .inl t_draft_needs)), (q, .inr (5, [.ref q_draft, .int u14_5, .int u14_6, .ref q_text, .int t_length, .int u14_7, .int u14_8, .int u14_9, .int u14_10])), (q_text, .inl (C 1, 600, .inl t_text))] := hD
  refine lv_istore_n (lv' := [(2, .int r14), (0, .ref q), (1, .int p1)]) hx hb dX5_readPair_17 rfl hl (by decide) rfl (fun ls hl => ?_)
  refine lv_iload_n hx hb dX5_readPair_18 rfl (lv_at hl 0 rfl) ?_
  refine lv_iconst (v := (-1)) hx hb dX5_readPair_19 (by decide) ?_
  refine lv_icmp_eq (tgt := 39) hx hb dX5_readPair_20 (by decide) (fun c20 => ?_) (fun c20 => ?_)
  · have hwp := hwp.1 c20
    refine lv_iconst (v := 0) hx hb dX5_readPair_39 (by decide) ?_
    have hP9 := hP.sub (ws' := [(q, .inr (5, [.ref q_draft, .int u14_5, .int u14_6, .ref q_text, .int t_length, .int u14_7, .int u14_8, .int u14_9, .int u14_10])), (q_text, .inl (C 1, 600, .inl t_text)), (q_draft, .inr (8, [.int t_draft_items, .int t_draft_capacity, .int t_draft_limit, .int t_draft_mustSet, .int t_draft_neverSet, .int t_draft_hand, .ref q_draft_weight, .ref q_draft_gain, .ref q_draft_joy, .ref q_draft_bars, .ref q_draft_needs])), (q_draft_bars, .inl (C 0, 12, .inl t_draft_bars)), (q_draft_needs, .inl (C 0, 12, .inl t_draft_needs))]) [3, 4, 0, 1, 2] rfl
    have hD9 := hD.sub (ws' := [(q, .inr (5, [.ref q_draft, .int u14_5, .int u14_6, .ref q_text, .int t_length, .int u14_7, .int u14_8, .int u14_9, .int u14_10])), (q_text, .inl (C 1, 600, .inl t_text)), (q_draft, .inr (8, [.int t_draft_items, .int t_draft_capacity, .int t_draft_limit, .int t_draft_mustSet, .int t_draft_neverSet, .int t_draft_hand, .ref q_draft_weight, .ref q_draft_gain, .ref q_draft_joy, .ref q_draft_bars, .ref q_draft_needs])), (q_draft_bars, .inl (C 0, 12, .inl t_draft_bars)), (q_draft_needs, .inl (C 0, 12, .inl t_draft_needs))]) [3, 4, 0, 1, 2] (by decide) rfl
    exact W.zret (v := (0 : Int32)) (ty := .boolean) hx hb hr rfl (fun t ht hW => ⟨⟨(0 : Int32), (u14_5, u14_6, u14_7, u14_8, u14_9, u14_10, t_draft_bars, t_draft_needs), rfl, hwp, by rw [ht]; exact hP9, va_K.moved hW.alike hK, hD9⟩, hS.F ht⟩) hS.2.2 dX5_readPair_40
  · have hwp := hwp.2 c20
    refine lv_aload_n hx hb dX5_readPair_23 rfl (lv_at hl 1 rfl) ?_
    refine lv_aload_n hx hb dX5_readPair_24 rfl (lv_at hl 1 rfl) ?_
    refine va_get (D := D) (ci := 5) (v := .ref q_draft) (C := RX5) (T := TX5) (N := 9) hx hb hts iwX5 hown hK hP 3 rfl rfl 0 (by decide) (hts (.fieldLink RX5 12 "ParetoDesk$Parser" "draft" "LParetoDesk$Setup;") wd_147) (fun _ h9 => h9) rfl dX5_readPair_25 ?_
    refine va_get (D := D) (ci := 8) (v := .int t_draft_items) (C := RX8) (T := TX8) (N := 11) hx hb hts iwX8 hown hK hP 0 rfl rfl 0 (by decide) (hts (.fieldLink RX5 135 "ParetoDesk$Setup" "items" "I") wd_87) (fun _ h9 => h9) rfl dX5_readPair_28 ?_
    refine lv_iconst (v := 1) hx hb dX5_readPair_31 (by decide) ?_
    refine lv_isub hx hb dX5_readPair_32 ?_
    have hPc := hP.sub (ws' := [(q, .inr (5, [.ref q_draft, .int u14_5, .int u14_6, .ref q_text, .int t_length, .int u14_7, .int u14_8, .int u14_9, .int u14_10]))]) [3] rfl
    have hDc := hD.sub (ws' := [(q, .inr (5, [.ref q_draft, .int u14_5, .int u14_6, .ref q_text, .int t_length, .int u14_7, .int u14_8, .int u14_9, .int u14_10]))]) [3] (by decide) rfl
    have hFc := va_free (wc := [(q, .inr (5, [.ref q_draft, .int u14_5, .int u14_6, .ref q_text, .int t_length, .int u14_7, .int u14_8, .int u14_9, .int u14_10]))]) hD hS hA [3] rfl
    refine va_calli (va_runV (As := [.int (t_draft_items - (1 : Int32))]) (rest := []) ⟨hx, hb, hml, hown, hts⟩ (met_X5_checkNumber l D C q q_draft q_text (t_draft_items - (1 : Int32)) u14_5 u14_6 t_length u14_7 u14_8 u14_9 u14_10 H.size _ hwp) (cwV 1 hts gc_X5_94 rfl rfl rfl (by decide +kernel) ⟨Nat.le_of_ble_eq_true rfl, Nat.le_of_ble_eq_true rfl⟩) ⟨fun a U g mk q => by obtain ⟨q0, q1, qP, qK, qD⟩ := q; exact ⟨q0, q1, qP, va_K.moved (u := U) (U := U.calling g mk a) (Vm.Alike.refl U.vm) qK, qD⟩, va_recv hK hPc (ci := 5) (q0 := 0) rfl rfl, fun U hU hW => ⟨rfl, by rw [hU], by rw [hU]; exact hPc, va_K.moved hW.alike hK, hDc.weaken (fun _ _ _ _ => trivial)⟩⟩ rfl rfl hl.1 rfl (lv_room (Nat.le_of_ble_eq_true rfl)) dX5_readPair_33 ⟨Nat.zero_le _, Nat.zero_le _⟩) hS (fun q _ h => hFc q h) hFc (fun r33 u t H1 locs ht hvm hwp hB hz1 hk1 hS => ?_)
    obtain ⟨u33_11, u33_12⟩ := u
    obtain ⟨hP1, -, hD1⟩ := hB
    rw [ht] at hP1
    obtain ⟨hP, hD⟩ := va_join (wr := [(q_draft, .inr (8, [.int t_draft_items, .int t_draft_capacity, .int t_draft_limit, .int t_draft_mustSet, .int t_draft_neverSet, .int t_draft_hand, .ref q_draft_weight, .ref q_draft_gain, .ref q_draft_joy, .ref q_draft_bars, .ref q_draft_needs])), (q_draft_bars, .inl (C 0, 12, .inl t_draft_bars)), (q_draft_needs, .inl (C 0, 12, .inl t_draft_needs)), (q_text, .inl (C 1, 600, .inl t_text))]) (w1 := [(q, .inr (5, [.ref q_draft, .int u33_11, .int u33_12, .ref q_text, .int t_length, .int u14_7, .int u14_8, .int u14_9, .int u14_10]))]) hP hD [3] [0, 1, 2, 4] rfl rfl (by decide) (by decide) hk1 hFc hP1 hD1
    generalize H1 = H at hP hS ⊢
    have hP : va_P D vwCl [(q_draft, .inr (8, [.int t_draft_items, .int t_draft_capacity, .int t_draft_limit, .int t_draft_mustSet, .int t_draft_neverSet, .int t_draft_hand, .ref q_draft_weight, .ref q_draft_gain, .ref q_draft_joy, .ref q_draft_bars, .ref q_draft_needs])), (q_draft_bars, .inl (C 0, 12, .inl t_draft_bars)), (q_draft_needs, .inl (C 0, 12, .inl t_draft_needs)), (q_text, .inl (C 1, 600, .inl t_text)), (q, .inr (5, [.ref q_draft, .int u33_11, .int u33_12, .ref q_text, .int t_length, .int u14_7, .int u14_8, .int u14_9, .int u14_10]))] H := hP
    have hD : va_D A [(q_draft, .inr (8, [.int t_draft_items, .int t_draft_capacity, .int t_draft_limit, .int t_draft_mustSet, .int t_draft_neverSet, .int t_draft_hand, .ref q_draft_weight, .ref q_draft_gain, .ref q_draft_joy, .ref q_draft_bars, .ref q_draft_needs])), (q_draft_bars, .inl (C 0, 12, .inl t_draft_bars)), (q_draft_needs, .inl (C 0, 12, .inl t_draft_needs)), (q_text, .inl (C 1, 600, .inl t_text)), (q, .inr (5, [.ref q_draft, .int u33_11, .int u33_12, .ref q_text, .int t_length, .int u14_7, .int u14_8, .int u14_9, .int u14_10]))] := hD
    refine lv_if_ne (tgt := 41) hx hb dX5_readPair_36 (by decide) (fun c36 => ?_) (fun c36 => ?_)
    · have hwp := hwp.1 c36
      refine lv_aload_n hx hb dX5_readPair_41 rfl (lv_at hl 1 rfl) ?_
      refine va_get (D := D) (ci := 5) (v := .int u14_10) (C := RX5) (T := TX5) (N := 9) hx hb hts iwX5 hown hK hP 4 rfl rfl 8 (by decide) (hts (.fieldLink RX5 60 "ParetoDesk$Parser" "value" "I") wd_158) (fun _ h9 => h9) rfl dX5_readPair_42 ?_
      refine lv_istore_n (lv' := [(3, .int u14_10), (2, .int r14), (0, .ref q), (1, .int p1)]) hx hb dX5_readPair_45 rfl hl (by decide) rfl (fun ls hl => ?_)
      refine lv_iload_n hx hb dX5_readPair_46 rfl (lv_at hl 3 rfl) ?_
      refine lv_if_eq (tgt := 60) hx hb dX5_readPair_47 (by decide) (fun c47 => ?_) (fun c47 => ?_)
      · have hwp := hwp.1 c47
        refine lv_aload_n hx hb dX5_readPair_60 rfl (lv_at hl 2 rfl) ?_
        refine va_get (D := D) (ci := 5) (v := .ref q_draft) (C := RX5) (T := TX5) (N := 9) hx hb hts iwX5 hown hK hP 4 rfl rfl 0 (by decide) (hts (.fieldLink RX5 12 "ParetoDesk$Parser" "draft" "LParetoDesk$Setup;") wd_147) (fun _ h9 => h9) rfl dX5_readPair_61 ?_
        refine va_get (D := D) (ci := 8) (v := .ref q_draft_needs) (C := RX8) (T := TX8) (N := 11) hx hb hts iwX8 hown hK hP 0 rfl rfl 10 (by decide) (hts (.fieldLink RX5 152 "ParetoDesk$Setup" "needs" "[I") wd_121) (fun _ h9 => h9) rfl dX5_readPair_64 ?_
        refine lv_astore (lv' := [(4, .ref q_draft_needs), (3, .int u14_10), (2, .int r14), (0, .ref q), (1, .int p1)]) hx hb dX5_readPair_67 hl (by decide) rfl (fun ls hl => ?_)
        refine lv_iload_n hx hb dX5_readPair_69 rfl (lv_at hl 1 rfl) ?_
        refine lv_iload_n hx hb dX5_readPair_70 rfl (lv_at hl 2 rfl) ?_
        refine lv_icmp_eq (tgt := 85) hx hb dX5_readPair_71 (by decide) (fun c71 => ?_) (fun c71 => ?_)
        · have hwp := hwp.1 c71
          have hl9 := lv_sub (l' := [(0, .ref q)]) hl [3] rfl
          have hP9 := hP.sub (ws' := [(q, .inr (5, [.ref q_draft, .int u33_11, .int u33_12, .ref q_text, .int t_length, .int u14_7, .int u14_8, .int u14_9, .int u14_10])), (q_text, .inl (C 1, 600, .inl t_text)), (q_draft, .inr (8, [.int t_draft_items, .int t_draft_capacity, .int t_draft_limit, .int t_draft_mustSet, .int t_draft_neverSet, .int t_draft_hand, .ref q_draft_weight, .ref q_draft_gain, .ref q_draft_joy, .ref q_draft_bars, .ref q_draft_needs])), (q_draft_bars, .inl (C 0, 12, .inl t_draft_bars)), (q_draft_needs, .inl (C 0, 12, .inl t_draft_needs))]) [4, 3, 0, 1, 2] rfl
          have hD9 := hD.sub (ws' := [(q, .inr (5, [.ref q_draft, .int u33_11, .int u33_12, .ref q_text, .int t_length, .int u14_7, .int u14_8, .int u14_9, .int u14_10])), (q_text, .inl (C 1, 600, .inl t_text)), (q_draft, .inr (8, [.int t_draft_items, .int t_draft_capacity, .int t_draft_limit, .int t_draft_mustSet, .int t_draft_neverSet, .int t_draft_hand, .ref q_draft_weight, .ref q_draft_gain, .ref q_draft_joy, .ref q_draft_bars, .ref q_draft_needs])), (q_draft_bars, .inl (C 0, 12, .inl t_draft_bars)), (q_draft_needs, .inl (C 0, 12, .inl t_draft_needs))]) [4, 3, 0, 1, 2] (by decide) rfl
          exact HB85 u33_11 u33_12 u14_7 u14_8 u14_9 u14_10 t_draft_bars t_draft_needs H locs ls hl9 hP9 hD9 hS hwp
        · have hwp := hwp.2 c71
          refine lv_aload hx hb dX5_readPair_74 (lv_at hl 0 rfl) ?_
          refine lv_iload_n hx hb dX5_readPair_76 rfl (lv_at hl 2 rfl) ?_
          obtain ⟨hi77, hwp⟩ := hwp
          refine va_iald (D := D) hx hb hK hP 2 0 rfl rfl hi77 dX5_readPair_77 ?_
          refine lv_iload_n hx hb dX5_readPair_78 rfl (lv_at hl 1 rfl) ?_
          have hPc := hP.sub (ws' := []) [] rfl
          have hDc := hD.sub (ws' := []) [] (by decide) rfl
          have hFc := va_free (wc := []) hD hS hA [] rfl
          refine va_calli (va_runSN (As := [.int (t_draft_needs r14.toNatClampNeg), .int u14_10]) (rest := []) ⟨hx, hb, hml, hown, hts⟩ (met_X10_hasBit l D C (t_draft_needs r14.toNatClampNeg) u14_10 H.size _ hwp) ⟨va_cnB (own := RX5) (index := 155) (host := "ParetoDesk") 2 hts gc_X10_hasBit rfl rfl rfl (hT.2.2.2.2.1 ("ParetoDesk$Parser", 155, yX10_hasBit, "ParetoDesk") (by decide)) (hts (.initialized RX10) wd_35) (by decide +kernel) ⟨Nat.le_of_ble_eq_true rfl, Nat.le_of_ble_eq_true rfl⟩, (hts (.static yX10_hasBit) wd_962), trivial⟩ ⟨fun a U g mk q => by obtain ⟨q0, q1, qP, qK, qD⟩ := q; exact ⟨q0, q1, qP, va_K.moved (u := U) (U := U.calling g mk a) (Vm.Alike.refl U.vm) qK, qD⟩, fun U hU hW => ⟨rfl, by rw [hU], by rw [hU]; exact hPc, va_K.moved hW.alike hK, hDc.weaken (fun _ _ _ _ => trivial)⟩⟩ rfl rfl hl.1 rfl (lv_room (Nat.le_of_ble_eq_true rfl)) dX5_readPair_79 ⟨Nat.zero_le _, Nat.zero_le _⟩) hS (fun q _ h => hFc q h) hFc (fun r79 u t H1 locs ht hvm hwp hB hz1 hk1 hS => ?_)
          obtain ⟨hP1, -, hD1⟩ := hB
          rw [ht] at hP1
          obtain ⟨hP, hD⟩ := va_join (wr := [(q_draft, .inr (8, [.int t_draft_items, .int t_draft_capacity, .int t_draft_limit, .int t_draft_mustSet, .int t_draft_neverSet, .int t_draft_hand, .ref q_draft_weight, .ref q_draft_gain, .ref q_draft_joy, .ref q_draft_bars, .ref q_draft_needs])), (q_draft_bars, .inl (C 0, 12, .inl t_draft_bars)), (q_draft_needs, .inl (C 0, 12, .inl t_draft_needs)), (q_text, .inl (C 1, 600, .inl t_text)), (q, .inr (5, [.ref q_draft, .int u33_11, .int u33_12, .ref q_text, .int t_length, .int u14_7, .int u14_8, .int u14_9, .int u14_10]))]) (w1 := []) hP hD [] [0, 1, 2, 3, 4] rfl rfl (by decide) (by decide) hk1 hFc hP1 hD1
          generalize H1 = H at hP hS ⊢
          have hP : va_P D vwCl [(q_draft, .inr (8, [.int t_draft_items, .int t_draft_capacity, .int t_draft_limit, .int t_draft_mustSet, .int t_draft_neverSet, .int t_draft_hand, .ref q_draft_weight, .ref q_draft_gain, .ref q_draft_joy, .ref q_draft_bars, .ref q_draft_needs])), (q_draft_bars, .inl (C 0, 12, .inl t_draft_bars)), (q_draft_needs, .inl (C 0, 12, .inl t_draft_needs)), (q_text, .inl (C 1, 600, .inl t_text)), (q, .inr (5, [.ref q_draft, .int u33_11, .int u33_12, .ref q_text, .int t_length, .int u14_7, .int u14_8, .int u14_9, .int u14_10]))] H := hP
          have hD : va_D A [(q_draft, .inr (8, [.int t_draft_items, .int t_draft_capacity, .int t_draft_limit, .int t_draft_mustSet, .int t_draft_neverSet, .int t_draft_hand, .ref q_draft_weight, .ref q_draft_gain, .ref q_draft_joy, .ref q_draft_bars, .ref q_draft_needs])), (q_draft_bars, .inl (C 0, 12, .inl t_draft_bars)), (q_draft_needs, .inl (C 0, 12, .inl t_draft_needs)), (q_text, .inl (C 1, 600, .inl t_text)), (q, .inr (5, [.ref q_draft, .int u33_11, .int u33_12, .ref q_text, .int t_length, .int u14_7, .int u14_8, .int u14_9, .int u14_10]))] := hD
          refine lv_if_eq (tgt := 91) hx hb dX5_readPair_82 (by decide) (fun c82 => ?_) (fun c82 => ?_)
          · have hwp := hwp.1 c82
            refine lv_aload hx hb dX5_readPair_91 (lv_at hl 0 rfl) ?_
            refine lv_iload_n hx hb dX5_readPair_93 rfl (lv_at hl 2 rfl) ?_
            refine lv_aload hx hb dX5_readPair_94 (lv_at hl 0 rfl) ?_
            refine lv_iload_n hx hb dX5_readPair_96 rfl (lv_at hl 2 rfl) ?_
            obtain ⟨hi97, hwp⟩ := hwp
            refine va_iald (D := D) hx hb hK hP 2 0 rfl rfl hi97 dX5_readPair_97 ?_
            refine lv_iload_n hx hb dX5_readPair_98 rfl (lv_at hl 1 rfl) ?_
            refine lv_iconst (v := 1) hx hb dX5_readPair_99 (by decide) ?_
            have hPc := hP.sub (ws' := []) [] rfl
            have hDc := hD.sub (ws' := []) [] (by decide) rfl
            have hFc := va_free (wc := []) hD hS hA [] rfl
            refine va_calli (va_runSN (As := [.int (t_draft_needs r14.toNatClampNeg), .int u14_10, .int (1 : Int32)]) (rest := [.int r14, .ref q_draft_needs]) ⟨hx, hb, hml, hown, hts⟩ (met_X10_withBit l D C (t_draft_needs r14.toNatClampNeg) u14_10 (1 : Int32) H.size _ hwp) ⟨va_cnB (own := RX5) (index := 159) (host := "ParetoDesk") 3 hts gc_X10_withBit rfl rfl rfl (hT.2.2.2.2.1 ("ParetoDesk$Parser", 159, yX10_withBit, "ParetoDesk") (by decide)) (hts (.initialized RX10) wd_35) (by decide +kernel) ⟨Nat.le_of_ble_eq_true rfl, Nat.le_of_ble_eq_true rfl⟩, (hts (.static yX10_withBit) wd_965), trivial⟩ ⟨fun a U g mk q => by obtain ⟨q0, q1, qP, qK, qD⟩ := q; exact ⟨q0, q1, qP, va_K.moved (u := U) (U := U.calling g mk a) (Vm.Alike.refl U.vm) qK, qD⟩, fun U hU hW => ⟨rfl, by rw [hU], by rw [hU]; exact hPc, va_K.moved hW.alike hK, hDc.weaken (fun _ _ _ _ => trivial)⟩⟩ rfl rfl hl.1 rfl (lv_room (Nat.le_of_ble_eq_true rfl)) dX5_readPair_100 ⟨Nat.zero_le _, Nat.zero_le _⟩) hS (fun q _ h => hFc q h) hFc (fun r100 u t H1 locs ht hvm hwp hB hz1 hk1 hS => ?_)
            obtain ⟨hP1, -, hD1⟩ := hB
            rw [ht] at hP1
            obtain ⟨hP, hD⟩ := va_join (wr := [(q_draft, .inr (8, [.int t_draft_items, .int t_draft_capacity, .int t_draft_limit, .int t_draft_mustSet, .int t_draft_neverSet, .int t_draft_hand, .ref q_draft_weight, .ref q_draft_gain, .ref q_draft_joy, .ref q_draft_bars, .ref q_draft_needs])), (q_draft_bars, .inl (C 0, 12, .inl t_draft_bars)), (q_draft_needs, .inl (C 0, 12, .inl t_draft_needs)), (q_text, .inl (C 1, 600, .inl t_text)), (q, .inr (5, [.ref q_draft, .int u33_11, .int u33_12, .ref q_text, .int t_length, .int u14_7, .int u14_8, .int u14_9, .int u14_10]))]) (w1 := []) hP hD [] [0, 1, 2, 3, 4] rfl rfl (by decide) (by decide) hk1 hFc hP1 hD1
            generalize H1 = H at hP hS ⊢
            have hP : va_P D vwCl [(q_draft, .inr (8, [.int t_draft_items, .int t_draft_capacity, .int t_draft_limit, .int t_draft_mustSet, .int t_draft_neverSet, .int t_draft_hand, .ref q_draft_weight, .ref q_draft_gain, .ref q_draft_joy, .ref q_draft_bars, .ref q_draft_needs])), (q_draft_bars, .inl (C 0, 12, .inl t_draft_bars)), (q_draft_needs, .inl (C 0, 12, .inl t_draft_needs)), (q_text, .inl (C 1, 600, .inl t_text)), (q, .inr (5, [.ref q_draft, .int u33_11, .int u33_12, .ref q_text, .int t_length, .int u14_7, .int u14_8, .int u14_9, .int u14_10]))] H := hP
            have hD : va_D A [(q_draft, .inr (8, [.int t_draft_items, .int t_draft_capacity, .int t_draft_limit, .int t_draft_mustSet, .int t_draft_neverSet, .int t_draft_hand, .ref q_draft_weight, .ref q_draft_gain, .ref q_draft_joy, .ref q_draft_bars, .ref q_draft_needs])), (q_draft_bars, .inl (C 0, 12, .inl t_draft_bars)), (q_draft_needs, .inl (C 0, 12, .inl t_draft_needs)), (q_text, .inl (C 1, 600, .inl t_text)), (q, .inr (5, [.ref q_draft, .int u33_11, .int u33_12, .ref q_text, .int t_length, .int u14_7, .int u14_8, .int u14_9, .int u14_10]))] := hD
            obtain ⟨hi103, hwp⟩ := hwp
            refine va_iast (D := D) hx hb hK hP hD hS 2 0 rfl rfl hi103 dX5_readPair_103 (fun H locs hP hD hS => ?_)
            have hP : va_P D vwCl [(q_draft, .inr (8, [.int t_draft_items, .int t_draft_capacity, .int t_draft_limit, .int t_draft_mustSet, .int t_draft_neverSet, .int t_draft_hand, .ref q_draft_weight, .ref q_draft_gain, .ref q_draft_joy, .ref q_draft_bars, .ref q_draft_needs])), (q_draft_bars, .inl (C 0, 12, .inl t_draft_bars)), (q_draft_needs, .inl (C 0, 12, .inl (upd t_draft_needs r14.toNatClampNeg r100))), (q_text, .inl (C 1, 600, .inl t_text)), (q, .inr (5, [.ref q_draft, .int u33_11, .int u33_12, .ref q_text, .int t_length, .int u14_7, .int u14_8, .int u14_9, .int u14_10]))] H := hP
            have hD : va_D A [(q_draft, .inr (8, [.int t_draft_items, .int t_draft_capacity, .int t_draft_limit, .int t_draft_mustSet, .int t_draft_neverSet, .int t_draft_hand, .ref q_draft_weight, .ref q_draft_gain, .ref q_draft_joy, .ref q_draft_bars, .ref q_draft_needs])), (q_draft_bars, .inl (C 0, 12, .inl t_draft_bars)), (q_draft_needs, .inl (C 0, 12, .inl (upd t_draft_needs r14.toNatClampNeg r100))), (q_text, .inl (C 1, 600, .inl t_text)), (q, .inr (5, [.ref q_draft, .int u33_11, .int u33_12, .ref q_text, .int t_length, .int u14_7, .int u14_8, .int u14_9, .int u14_10]))] := hD
            refine lv_iload_n hx hb dX5_readPair_104 rfl (lv_at hl 4 rfl) ?_
            refine lv_if_eq (tgt := 121) hx hb dX5_readPair_105 (by decide) (fun c105 => ?_) (fun c105 => ?_)
            · have hwp := hwp.1 c105
              have hl9 := lv_sub (l' := [(0, .ref q)]) hl [3] rfl
              have hP9 := hP.sub (ws' := [(q, .inr (5, [.ref q_draft, .int u33_11, .int u33_12, .ref q_text, .int t_length, .int u14_7, .int u14_8, .int u14_9, .int u14_10])), (q_text, .inl (C 1, 600, .inl t_text)), (q_draft, .inr (8, [.int t_draft_items, .int t_draft_capacity, .int t_draft_limit, .int t_draft_mustSet, .int t_draft_neverSet, .int t_draft_hand, .ref q_draft_weight, .ref q_draft_gain, .ref q_draft_joy, .ref q_draft_bars, .ref q_draft_needs])), (q_draft_bars, .inl (C 0, 12, .inl t_draft_bars)), (q_draft_needs, .inl (C 0, 12, .inl (upd t_draft_needs r14.toNatClampNeg r100)))]) [4, 3, 0, 1, 2] rfl
              have hD9 := hD.sub (ws' := [(q, .inr (5, [.ref q_draft, .int u33_11, .int u33_12, .ref q_text, .int t_length, .int u14_7, .int u14_8, .int u14_9, .int u14_10])), (q_text, .inl (C 1, 600, .inl t_text)), (q_draft, .inr (8, [.int t_draft_items, .int t_draft_capacity, .int t_draft_limit, .int t_draft_mustSet, .int t_draft_neverSet, .int t_draft_hand, .ref q_draft_weight, .ref q_draft_gain, .ref q_draft_joy, .ref q_draft_bars, .ref q_draft_needs])), (q_draft_bars, .inl (C 0, 12, .inl t_draft_bars)), (q_draft_needs, .inl (C 0, 12, .inl (upd t_draft_needs r14.toNatClampNeg r100)))]) [4, 3, 0, 1, 2] (by decide) rfl
              exact HB121 u33_11 u33_12 u14_7 u14_8 u14_9 u14_10 t_draft_bars (upd t_draft_needs r14.toNatClampNeg r100) H locs ls hl9 hP9 hD9 hS hwp
            · have hwp := hwp.2 c105
              refine lv_aload hx hb dX5_readPair_108 (lv_at hl 0 rfl) ?_
              refine lv_iload_n hx hb dX5_readPair_110 rfl (lv_at hl 1 rfl) ?_
              refine lv_aload hx hb dX5_readPair_111 (lv_at hl 0 rfl) ?_
              refine lv_iload_n hx hb dX5_readPair_113 rfl (lv_at hl 1 rfl) ?_
              obtain ⟨hi114, hwp⟩ := hwp
              refine va_iald (D := D) hx hb hK hP 2 0 rfl rfl hi114 dX5_readPair_114 ?_
              refine lv_iload_n hx hb dX5_readPair_115 rfl (lv_at hl 2 rfl) ?_
              refine lv_iconst (v := 1) hx hb dX5_readPair_116 (by decide) ?_
              have hPc := hP.sub (ws' := []) [] rfl
              have hDc := hD.sub (ws' := []) [] (by decide) rfl
              have hFc := va_free (wc := []) hD hS hA [] rfl
              refine va_calli (va_runSN (As := [.int ((upd t_draft_needs r14.toNatClampNeg r100) u14_10.toNatClampNeg), .int r14, .int (1 : Int32)]) (rest := [.int u14_10, .ref q_draft_needs]) ⟨hx, hb, hml, hown, hts⟩ (met_X10_withBit l D C ((upd t_draft_needs r14.toNatClampNeg r100) u14_10.toNatClampNeg) r14 (1 : Int32) H.size _ hwp) ⟨va_cnB (own := RX5) (index := 159) (host := "ParetoDesk") 3 hts gc_X10_withBit rfl rfl rfl (hT.2.2.2.2.1 ("ParetoDesk$Parser", 159, yX10_withBit, "ParetoDesk") (by decide)) (hts (.initialized RX10) wd_35) (by decide +kernel) ⟨Nat.le_of_ble_eq_true rfl, Nat.le_of_ble_eq_true rfl⟩, (hts (.static yX10_withBit) wd_965), trivial⟩ ⟨fun a U g mk q => by obtain ⟨q0, q1, qP, qK, qD⟩ := q; exact ⟨q0, q1, qP, va_K.moved (u := U) (U := U.calling g mk a) (Vm.Alike.refl U.vm) qK, qD⟩, fun U hU hW => ⟨rfl, by rw [hU], by rw [hU]; exact hPc, va_K.moved hW.alike hK, hDc.weaken (fun _ _ _ _ => trivial)⟩⟩ rfl rfl hl.1 rfl (lv_room (Nat.le_of_ble_eq_true rfl)) dX5_readPair_117 ⟨Nat.zero_le _, Nat.zero_le _⟩) hS (fun q _ h => hFc q h) hFc (fun r117 u t H1 locs ht hvm hwp hB hz1 hk1 hS => ?_)
              obtain ⟨hP1, -, hD1⟩ := hB
              rw [ht] at hP1
              obtain ⟨hP, hD⟩ := va_join (wr := [(q_draft, .inr (8, [.int t_draft_items, .int t_draft_capacity, .int t_draft_limit, .int t_draft_mustSet, .int t_draft_neverSet, .int t_draft_hand, .ref q_draft_weight, .ref q_draft_gain, .ref q_draft_joy, .ref q_draft_bars, .ref q_draft_needs])), (q_draft_bars, .inl (C 0, 12, .inl t_draft_bars)), (q_draft_needs, .inl (C 0, 12, .inl (upd t_draft_needs r14.toNatClampNeg r100))), (q_text, .inl (C 1, 600, .inl t_text)), (q, .inr (5, [.ref q_draft, .int u33_11, .int u33_12, .ref q_text, .int t_length, .int u14_7, .int u14_8, .int u14_9, .int u14_10]))]) (w1 := []) hP hD [] [0, 1, 2, 3, 4] rfl rfl (by decide) (by decide) hk1 hFc hP1 hD1
              generalize H1 = H at hP hS ⊢
              have hP : va_P D vwCl [(q_draft, .inr (8, [.int t_draft_items, .int t_draft_capacity, .int t_draft_limit, .int t_draft_mustSet, .int t_draft_neverSet, .int t_draft_hand, .ref q_draft_weight, .ref q_draft_gain, .ref q_draft_joy, .ref q_draft_bars, .ref q_draft_needs])), (q_draft_bars, .inl (C 0, 12, .inl t_draft_bars)), (q_draft_needs, .inl (C 0, 12, .inl (upd t_draft_needs r14.toNatClampNeg r100))), (q_text, .inl (C 1, 600, .inl t_text)), (q, .inr (5, [.ref q_draft, .int u33_11, .int u33_12, .ref q_text, .int t_length, .int u14_7, .int u14_8, .int u14_9, .int u14_10]))] H := hP
              have hD : va_D A [(q_draft, .inr (8, [.int t_draft_items, .int t_draft_capacity, .int t_draft_limit, .int t_draft_mustSet, .int t_draft_neverSet, .int t_draft_hand, .ref q_draft_weight, .ref q_draft_gain, .ref q_draft_joy, .ref q_draft_bars, .ref q_draft_needs])), (q_draft_bars, .inl (C 0, 12, .inl t_draft_bars)), (q_draft_needs, .inl (C 0, 12, .inl (upd t_draft_needs r14.toNatClampNeg r100))), (q_text, .inl (C 1, 600, .inl t_text)), (q, .inr (5, [.ref q_draft, .int u33_11, .int u33_12, .ref q_text, .int t_length, .int u14_7, .int u14_8, .int u14_9, .int u14_10]))] := hD
              obtain ⟨hi120, hwp⟩ := hwp
              refine va_iast (D := D) hx hb hK hP hD hS 2 0 rfl rfl hi120 dX5_readPair_120 (fun H locs hP hD hS => ?_)
              have hP : va_P D vwCl [(q_draft, .inr (8, [.int t_draft_items, .int t_draft_capacity, .int t_draft_limit, .int t_draft_mustSet, .int t_draft_neverSet, .int t_draft_hand, .ref q_draft_weight, .ref q_draft_gain, .ref q_draft_joy, .ref q_draft_bars, .ref q_draft_needs])), (q_draft_bars, .inl (C 0, 12, .inl t_draft_bars)), (q_draft_needs, .inl (C 0, 12, .inl (upd (upd t_draft_needs r14.toNatClampNeg r100) u14_10.toNatClampNeg r117))), (q_text, .inl (C 1, 600, .inl t_text)), (q, .inr (5, [.ref q_draft, .int u33_11, .int u33_12, .ref q_text, .int t_length, .int u14_7, .int u14_8, .int u14_9, .int u14_10]))] H := hP
              have hD : va_D A [(q_draft, .inr (8, [.int t_draft_items, .int t_draft_capacity, .int t_draft_limit, .int t_draft_mustSet, .int t_draft_neverSet, .int t_draft_hand, .ref q_draft_weight, .ref q_draft_gain, .ref q_draft_joy, .ref q_draft_bars, .ref q_draft_needs])), (q_draft_bars, .inl (C 0, 12, .inl t_draft_bars)), (q_draft_needs, .inl (C 0, 12, .inl (upd (upd t_draft_needs r14.toNatClampNeg r100) u14_10.toNatClampNeg r117))), (q_text, .inl (C 1, 600, .inl t_text)), (q, .inr (5, [.ref q_draft, .int u33_11, .int u33_12, .ref q_text, .int t_length, .int u14_7, .int u14_8, .int u14_9, .int u14_10]))] := hD
              have hl9 := lv_sub (l' := [(0, .ref q)]) hl [3] rfl
              have hP9 := hP.sub (ws' := [(q, .inr (5, [.ref q_draft, .int u33_11, .int u33_12, .ref q_text, .int t_length, .int u14_7, .int u14_8, .int u14_9, .int u14_10])), (q_text, .inl (C 1, 600, .inl t_text)), (q_draft, .inr (8, [.int t_draft_items, .int t_draft_capacity, .int t_draft_limit, .int t_draft_mustSet, .int t_draft_neverSet, .int t_draft_hand, .ref q_draft_weight, .ref q_draft_gain, .ref q_draft_joy, .ref q_draft_bars, .ref q_draft_needs])), (q_draft_bars, .inl (C 0, 12, .inl t_draft_bars)), (q_draft_needs, .inl (C 0, 12, .inl (upd (upd t_draft_needs r14.toNatClampNeg r100) u14_10.toNatClampNeg r117)))]) [4, 3, 0, 1, 2] rfl
              have hD9 := hD.sub (ws' := [(q, .inr (5, [.ref q_draft, .int u33_11, .int u33_12, .ref q_text, .int t_length, .int u14_7, .int u14_8, .int u14_9, .int u14_10])), (q_text, .inl (C 1, 600, .inl t_text)), (q_draft, .inr (8, [.int t_draft_items, .int t_draft_capacity, .int t_draft_limit, .int t_draft_mustSet, .int t_draft_neverSet, .int t_draft_hand, .ref q_draft_weight, .ref q_draft_gain, .ref q_draft_joy, .ref q_draft_bars, .ref q_draft_needs])), (q_draft_bars, .inl (C 0, 12, .inl t_draft_bars)), (q_draft_needs, .inl (C 0, 12, .inl (upd (upd t_draft_needs r14.toNatClampNeg r100) u14_10.toNatClampNeg r117)))]) [4, 3, 0, 1, 2] (by decide) rfl
              exact HB121 u33_11 u33_12 u14_7 u14_8 u14_9 u14_10 t_draft_bars (upd (upd t_draft_needs r14.toNatClampNeg r100) u14_10.toNatClampNeg r117) H locs ls hl9 hP9 hD9 hS hwp
          · have hwp := hwp.2 c82
            have hl9 := lv_sub (l' := [(0, .ref q)]) hl [3] rfl
            have hP9 := hP.sub (ws' := [(q, .inr (5, [.ref q_draft, .int u33_11, .int u33_12, .ref q_text, .int t_length, .int u14_7, .int u14_8, .int u14_9, .int u14_10])), (q_text, .inl (C 1, 600, .inl t_text)), (q_draft, .inr (8, [.int t_draft_items, .int t_draft_capacity, .int t_draft_limit, .int t_draft_mustSet, .int t_draft_neverSet, .int t_draft_hand, .ref q_draft_weight, .ref q_draft_gain, .ref q_draft_joy, .ref q_draft_bars, .ref q_draft_needs])), (q_draft_bars, .inl (C 0, 12, .inl t_draft_bars)), (q_draft_needs, .inl (C 0, 12, .inl t_draft_needs))]) [4, 3, 0, 1, 2] rfl
            have hD9 := hD.sub (ws' := [(q, .inr (5, [.ref q_draft, .int u33_11, .int u33_12, .ref q_text, .int t_length, .int u14_7, .int u14_8, .int u14_9, .int u14_10])), (q_text, .inl (C 1, 600, .inl t_text)), (q_draft, .inr (8, [.int t_draft_items, .int t_draft_capacity, .int t_draft_limit, .int t_draft_mustSet, .int t_draft_neverSet, .int t_draft_hand, .ref q_draft_weight, .ref q_draft_gain, .ref q_draft_joy, .ref q_draft_bars, .ref q_draft_needs])), (q_draft_bars, .inl (C 0, 12, .inl t_draft_bars)), (q_draft_needs, .inl (C 0, 12, .inl t_draft_needs))]) [4, 3, 0, 1, 2] (by decide) rfl
            exact HB85 u33_11 u33_12 u14_7 u14_8 u14_9 u14_10 t_draft_bars t_draft_needs H locs ls hl9 hP9 hD9 hS hwp
      · have hwp := hwp.2 c47
        refine lv_aload_n hx hb dX5_readPair_50 rfl (lv_at hl 2 rfl) ?_
        refine va_get (D := D) (ci := 5) (v := .ref q_draft) (C := RX5) (T := TX5) (N := 9) hx hb hts iwX5 hown hK hP 4 rfl rfl 0 (by decide) (hts (.fieldLink RX5 12 "ParetoDesk$Parser" "draft" "LParetoDesk$Setup;") wd_147) (fun _ h9 => h9) rfl dX5_readPair_51 ?_
        refine va_get (D := D) (ci := 8) (v := .ref q_draft_bars) (C := RX8) (T := TX8) (N := 11) hx hb hts iwX8 hown hK hP 0 rfl rfl 9 (by decide) (hts (.fieldLink RX5 148 "ParetoDesk$Setup" "bars" "[I") wd_117) (fun _ h9 => h9) rfl dX5_readPair_54 ?_
        refine lv_goto (tgt := 67) hx hb dX5_readPair_57 (by decide) ?_
        refine lv_astore (lv' := [(4, .ref q_draft_bars), (3, .int u14_10), (2, .int r14), (0, .ref q), (1, .int p1)]) hx hb dX5_readPair_67 hl (by decide) rfl (fun ls hl => ?_)
        refine lv_iload_n hx hb dX5_readPair_69 rfl (lv_at hl 1 rfl) ?_
        refine lv_iload_n hx hb dX5_readPair_70 rfl (lv_at hl 2 rfl) ?_
        refine lv_icmp_eq (tgt := 85) hx hb dX5_readPair_71 (by decide) (fun c71 => ?_) (fun c71 => ?_)
        · have hwp := hwp.1 c71
          have hl9 := lv_sub (l' := [(0, .ref q)]) hl [3] rfl
          have hP9 := hP.sub (ws' := [(q, .inr (5, [.ref q_draft, .int u33_11, .int u33_12, .ref q_text, .int t_length, .int u14_7, .int u14_8, .int u14_9, .int u14_10])), (q_text, .inl (C 1, 600, .inl t_text)), (q_draft, .inr (8, [.int t_draft_items, .int t_draft_capacity, .int t_draft_limit, .int t_draft_mustSet, .int t_draft_neverSet, .int t_draft_hand, .ref q_draft_weight, .ref q_draft_gain, .ref q_draft_joy, .ref q_draft_bars, .ref q_draft_needs])), (q_draft_bars, .inl (C 0, 12, .inl t_draft_bars)), (q_draft_needs, .inl (C 0, 12, .inl t_draft_needs))]) [4, 3, 0, 1, 2] rfl
          have hD9 := hD.sub (ws' := [(q, .inr (5, [.ref q_draft, .int u33_11, .int u33_12, .ref q_text, .int t_length, .int u14_7, .int u14_8, .int u14_9, .int u14_10])), (q_text, .inl (C 1, 600, .inl t_text)), (q_draft, .inr (8, [.int t_draft_items, .int t_draft_capacity, .int t_draft_limit, .int t_draft_mustSet, .int t_draft_neverSet, .int t_draft_hand, .ref q_draft_weight, .ref q_draft_gain, .ref q_draft_joy, .ref q_draft_bars, .ref q_draft_needs])), (q_draft_bars, .inl (C 0, 12, .inl t_draft_bars)), (q_draft_needs, .inl (C 0, 12, .inl t_draft_needs))]) [4, 3, 0, 1, 2] (by decide) rfl
          exact HB85 u33_11 u33_12 u14_7 u14_8 u14_9 u14_10 t_draft_bars t_draft_needs H locs ls hl9 hP9 hD9 hS hwp
        · have hwp := hwp.2 c71
          refine lv_aload hx hb dX5_readPair_74 (lv_at hl 0 rfl) ?_
          refine lv_iload_n hx hb dX5_readPair_76 rfl (lv_at hl 2 rfl) ?_
          obtain ⟨hi77, hwp⟩ := hwp
          refine va_iald (D := D) hx hb hK hP 1 0 rfl rfl hi77 dX5_readPair_77 ?_
          refine lv_iload_n hx hb dX5_readPair_78 rfl (lv_at hl 1 rfl) ?_
          have hPc := hP.sub (ws' := []) [] rfl
          have hDc := hD.sub (ws' := []) [] (by decide) rfl
          have hFc := va_free (wc := []) hD hS hA [] rfl
          refine va_calli (va_runSN (As := [.int (t_draft_bars r14.toNatClampNeg), .int u14_10]) (rest := []) ⟨hx, hb, hml, hown, hts⟩ (met_X10_hasBit l D C (t_draft_bars r14.toNatClampNeg) u14_10 H.size _ hwp) ⟨va_cnB (own := RX5) (index := 155) (host := "ParetoDesk") 2 hts gc_X10_hasBit rfl rfl rfl (hT.2.2.2.2.1 ("ParetoDesk$Parser", 155, yX10_hasBit, "ParetoDesk") (by decide)) (hts (.initialized RX10) wd_35) (by decide +kernel) ⟨Nat.le_of_ble_eq_true rfl, Nat.le_of_ble_eq_true rfl⟩, (hts (.static yX10_hasBit) wd_962), trivial⟩ ⟨fun a U g mk q => by obtain ⟨q0, q1, qP, qK, qD⟩ := q; exact ⟨q0, q1, qP, va_K.moved (u := U) (U := U.calling g mk a) (Vm.Alike.refl U.vm) qK, qD⟩, fun U hU hW => ⟨rfl, by rw [hU], by rw [hU]; exact hPc, va_K.moved hW.alike hK, hDc.weaken (fun _ _ _ _ => trivial)⟩⟩ rfl rfl hl.1 rfl (lv_room (Nat.le_of_ble_eq_true rfl)) dX5_readPair_79 ⟨Nat.zero_le _, Nat.zero_le _⟩) hS (fun q _ h => hFc q h) hFc (fun r79 u t H1 locs ht hvm hwp hB hz1 hk1 hS => ?_)
          obtain ⟨hP1, -, hD1⟩ := hB
          rw [ht] at hP1
          obtain ⟨hP, hD⟩ := va_join (wr := [(q_draft, .inr (8, [.int t_draft_items, .int t_draft_capacity, .int t_draft_limit, .int t_draft_mustSet, .int t_draft_neverSet, .int t_draft_hand, .ref q_draft_weight, .ref q_draft_gain, .ref q_draft_joy, .ref q_draft_bars, .ref q_draft_needs])), (q_draft_bars, .inl (C 0, 12, .inl t_draft_bars)), (q_draft_needs, .inl (C 0, 12, .inl t_draft_needs)), (q_text, .inl (C 1, 600, .inl t_text)), (q, .inr (5, [.ref q_draft, .int u33_11, .int u33_12, .ref q_text, .int t_length, .int u14_7, .int u14_8, .int u14_9, .int u14_10]))]) (w1 := []) hP hD [] [0, 1, 2, 3, 4] rfl rfl (by decide) (by decide) hk1 hFc hP1 hD1
          generalize H1 = H at hP hS ⊢
          have hP : va_P D vwCl [(q_draft, .inr (8, [.int t_draft_items, .int t_draft_capacity, .int t_draft_limit, .int t_draft_mustSet, .int t_draft_neverSet, .int t_draft_hand, .ref q_draft_weight, .ref q_draft_gain, .ref q_draft_joy, .ref q_draft_bars, .ref q_draft_needs])), (q_draft_bars, .inl (C 0, 12, .inl t_draft_bars)), (q_draft_needs, .inl (C 0, 12, .inl t_draft_needs)), (q_text, .inl (C 1, 600, .inl t_text)), (q, .inr (5, [.ref q_draft, .int u33_11, .int u33_12, .ref q_text, .int t_length, .int u14_7, .int u14_8, .int u14_9, .int u14_10]))] H := hP
          have hD : va_D A [(q_draft, .inr (8, [.int t_draft_items, .int t_draft_capacity, .int t_draft_limit, .int t_draft_mustSet, .int t_draft_neverSet, .int t_draft_hand, .ref q_draft_weight, .ref q_draft_gain, .ref q_draft_joy, .ref q_draft_bars, .ref q_draft_needs])), (q_draft_bars, .inl (C 0, 12, .inl t_draft_bars)), (q_draft_needs, .inl (C 0, 12, .inl t_draft_needs)), (q_text, .inl (C 1, 600, .inl t_text)), (q, .inr (5, [.ref q_draft, .int u33_11, .int u33_12, .ref q_text, .int t_length, .int u14_7, .int u14_8, .int u14_9, .int u14_10]))] := hD
          refine lv_if_eq (tgt := 91) hx hb dX5_readPair_82 (by decide) (fun c82 => ?_) (fun c82 => ?_)
          · have hwp := hwp.1 c82
            refine lv_aload hx hb dX5_readPair_91 (lv_at hl 0 rfl) ?_
            refine lv_iload_n hx hb dX5_readPair_93 rfl (lv_at hl 2 rfl) ?_
            refine lv_aload hx hb dX5_readPair_94 (lv_at hl 0 rfl) ?_
            refine lv_iload_n hx hb dX5_readPair_96 rfl (lv_at hl 2 rfl) ?_
            obtain ⟨hi97, hwp⟩ := hwp
            refine va_iald (D := D) hx hb hK hP 1 0 rfl rfl hi97 dX5_readPair_97 ?_
            refine lv_iload_n hx hb dX5_readPair_98 rfl (lv_at hl 1 rfl) ?_
            refine lv_iconst (v := 1) hx hb dX5_readPair_99 (by decide) ?_
            have hPc := hP.sub (ws' := []) [] rfl
            have hDc := hD.sub (ws' := []) [] (by decide) rfl
            have hFc := va_free (wc := []) hD hS hA [] rfl
            refine va_calli (va_runSN (As := [.int (t_draft_bars r14.toNatClampNeg), .int u14_10, .int (1 : Int32)]) (rest := [.int r14, .ref q_draft_bars]) ⟨hx, hb, hml, hown, hts⟩ (met_X10_withBit l D C (t_draft_bars r14.toNatClampNeg) u14_10 (1 : Int32) H.size _ hwp) ⟨va_cnB (own := RX5) (index := 159) (host := "ParetoDesk") 3 hts gc_X10_withBit rfl rfl rfl (hT.2.2.2.2.1 ("ParetoDesk$Parser", 159, yX10_withBit, "ParetoDesk") (by decide)) (hts (.initialized RX10) wd_35) (by decide +kernel) ⟨Nat.le_of_ble_eq_true rfl, Nat.le_of_ble_eq_true rfl⟩, (hts (.static yX10_withBit) wd_965), trivial⟩ ⟨fun a U g mk q => by obtain ⟨q0, q1, qP, qK, qD⟩ := q; exact ⟨q0, q1, qP, va_K.moved (u := U) (U := U.calling g mk a) (Vm.Alike.refl U.vm) qK, qD⟩, fun U hU hW => ⟨rfl, by rw [hU], by rw [hU]; exact hPc, va_K.moved hW.alike hK, hDc.weaken (fun _ _ _ _ => trivial)⟩⟩ rfl rfl hl.1 rfl (lv_room (Nat.le_of_ble_eq_true rfl)) dX5_readPair_100 ⟨Nat.zero_le _, Nat.zero_le _⟩) hS (fun q _ h => hFc q h) hFc (fun r100 u t H1 locs ht hvm hwp hB hz1 hk1 hS => ?_)
            obtain ⟨hP1, -, hD1⟩ := hB
            rw [ht] at hP1
            obtain ⟨hP, hD⟩ := va_join (wr := [(q_draft, .inr (8, [.int t_draft_items, .int t_draft_capacity, .int t_draft_limit, .int t_draft_mustSet, .int t_draft_neverSet, .int t_draft_hand, .ref q_draft_weight, .ref q_draft_gain, .ref q_draft_joy, .ref q_draft_bars, .ref q_draft_needs])), (q_draft_bars, .inl (C 0, 12, .inl t_draft_bars)), (q_draft_needs, .inl (C 0, 12, .inl t_draft_needs)), (q_text, .inl (C 1, 600, .inl t_text)), (q, .inr (5, [.ref q_draft, .int u33_11, .int u33_12, .ref q_text, .int t_length, .int u14_7, .int u14_8, .int u14_9, .int u14_10]))]) (w1 := []) hP hD [] [0, 1, 2, 3, 4] rfl rfl (by decide) (by decide) hk1 hFc hP1 hD1
            generalize H1 = H at hP hS ⊢
            have hP : va_P D vwCl [(q_draft, .inr (8, [.int t_draft_items, .int t_draft_capacity, .int t_draft_limit, .int t_draft_mustSet, .int t_draft_neverSet, .int t_draft_hand, .ref q_draft_weight, .ref q_draft_gain, .ref q_draft_joy, .ref q_draft_bars, .ref q_draft_needs])), (q_draft_bars, .inl (C 0, 12, .inl t_draft_bars)), (q_draft_needs, .inl (C 0, 12, .inl t_draft_needs)), (q_text, .inl (C 1, 600, .inl t_text)), (q, .inr (5, [.ref q_draft, .int u33_11, .int u33_12, .ref q_text, .int t_length, .int u14_7, .int u14_8, .int u14_9, .int u14_10]))] H := hP
            have hD : va_D A [(q_draft, .inr (8, [.int t_draft_items, .int t_draft_capacity, .int t_draft_limit, .int t_draft_mustSet, .int t_draft_neverSet, .int t_draft_hand, .ref q_draft_weight, .ref q_draft_gain, .ref q_draft_joy, .ref q_draft_bars, .ref q_draft_needs])), (q_draft_bars, .inl (C 0, 12, .inl t_draft_bars)), (q_draft_needs, .inl (C 0, 12, .inl t_draft_needs)), (q_text, .inl (C 1, 600, .inl t_text)), (q, .inr (5, [.ref q_draft, .int u33_11, .int u33_12, .ref q_text, .int t_length, .int u14_7, .int u14_8, .int u14_9, .int u14_10]))] := hD
            obtain ⟨hi103, hwp⟩ := hwp
            refine va_iast (D := D) hx hb hK hP hD hS 1 0 rfl rfl hi103 dX5_readPair_103 (fun H locs hP hD hS => ?_)
            have hP : va_P D vwCl [(q_draft, .inr (8, [.int t_draft_items, .int t_draft_capacity, .int t_draft_limit, .int t_draft_mustSet, .int t_draft_neverSet, .int t_draft_hand, .ref q_draft_weight, .ref q_draft_gain, .ref q_draft_joy, .ref q_draft_bars, .ref q_draft_needs])), (q_draft_bars, .inl (C 0, 12, .inl (upd t_draft_bars r14.toNatClampNeg r100))), (q_draft_needs, .inl (C 0, 12, .inl t_draft_needs)), (q_text, .inl (C 1, 600, .inl t_text)), (q, .inr (5, [.ref q_draft, .int u33_11, .int u33_12, .ref q_text, .int t_length, .int u14_7, .int u14_8, .int u14_9, .int u14_10]))] H := hP
            have hD : va_D A [(q_draft, .inr (8, [.int t_draft_items, .int t_draft_capacity, .int t_draft_limit, .int t_draft_mustSet, .int t_draft_neverSet, .int t_draft_hand, .ref q_draft_weight, .ref q_draft_gain, .ref q_draft_joy, .ref q_draft_bars, .ref q_draft_needs])), (q_draft_bars, .inl (C 0, 12, .inl (upd t_draft_bars r14.toNatClampNeg r100))), (q_draft_needs, .inl (C 0, 12, .inl t_draft_needs)), (q_text, .inl (C 1, 600, .inl t_text)), (q, .inr (5, [.ref q_draft, .int u33_11, .int u33_12, .ref q_text, .int t_length, .int u14_7, .int u14_8, .int u14_9, .int u14_10]))] := hD
            refine lv_iload_n hx hb dX5_readPair_104 rfl (lv_at hl 4 rfl) ?_
            refine lv_if_eq (tgt := 121) hx hb dX5_readPair_105 (by decide) (fun c105 => ?_) (fun c105 => ?_)
            · have hwp := hwp.1 c105
              have hl9 := lv_sub (l' := [(0, .ref q)]) hl [3] rfl
              have hP9 := hP.sub (ws' := [(q, .inr (5, [.ref q_draft, .int u33_11, .int u33_12, .ref q_text, .int t_length, .int u14_7, .int u14_8, .int u14_9, .int u14_10])), (q_text, .inl (C 1, 600, .inl t_text)), (q_draft, .inr (8, [.int t_draft_items, .int t_draft_capacity, .int t_draft_limit, .int t_draft_mustSet, .int t_draft_neverSet, .int t_draft_hand, .ref q_draft_weight, .ref q_draft_gain, .ref q_draft_joy, .ref q_draft_bars, .ref q_draft_needs])), (q_draft_bars, .inl (C 0, 12, .inl (upd t_draft_bars r14.toNatClampNeg r100))), (q_draft_needs, .inl (C 0, 12, .inl t_draft_needs))]) [4, 3, 0, 1, 2] rfl
              have hD9 := hD.sub (ws' := [(q, .inr (5, [.ref q_draft, .int u33_11, .int u33_12, .ref q_text, .int t_length, .int u14_7, .int u14_8, .int u14_9, .int u14_10])), (q_text, .inl (C 1, 600, .inl t_text)), (q_draft, .inr (8, [.int t_draft_items, .int t_draft_capacity, .int t_draft_limit, .int t_draft_mustSet, .int t_draft_neverSet, .int t_draft_hand, .ref q_draft_weight, .ref q_draft_gain, .ref q_draft_joy, .ref q_draft_bars, .ref q_draft_needs])), (q_draft_bars, .inl (C 0, 12, .inl (upd t_draft_bars r14.toNatClampNeg r100))), (q_draft_needs, .inl (C 0, 12, .inl t_draft_needs))]) [4, 3, 0, 1, 2] (by decide) rfl
              exact HB121 u33_11 u33_12 u14_7 u14_8 u14_9 u14_10 (upd t_draft_bars r14.toNatClampNeg r100) t_draft_needs H locs ls hl9 hP9 hD9 hS hwp
            · have hwp := hwp.2 c105
              refine lv_aload hx hb dX5_readPair_108 (lv_at hl 0 rfl) ?_
              refine lv_iload_n hx hb dX5_readPair_110 rfl (lv_at hl 1 rfl) ?_
              refine lv_aload hx hb dX5_readPair_111 (lv_at hl 0 rfl) ?_
              refine lv_iload_n hx hb dX5_readPair_113 rfl (lv_at hl 1 rfl) ?_
              obtain ⟨hi114, hwp⟩ := hwp
              refine va_iald (D := D) hx hb hK hP 1 0 rfl rfl hi114 dX5_readPair_114 ?_
              refine lv_iload_n hx hb dX5_readPair_115 rfl (lv_at hl 2 rfl) ?_
              refine lv_iconst (v := 1) hx hb dX5_readPair_116 (by decide) ?_
              have hPc := hP.sub (ws' := []) [] rfl
              have hDc := hD.sub (ws' := []) [] (by decide) rfl
              have hFc := va_free (wc := []) hD hS hA [] rfl
              refine va_calli (va_runSN (As := [.int ((upd t_draft_bars r14.toNatClampNeg r100) u14_10.toNatClampNeg), .int r14, .int (1 : Int32)]) (rest := [.int u14_10, .ref q_draft_bars]) ⟨hx, hb, hml, hown, hts⟩ (met_X10_withBit l D C ((upd t_draft_bars r14.toNatClampNeg r100) u14_10.toNatClampNeg) r14 (1 : Int32) H.size _ hwp) ⟨va_cnB (own := RX5) (index := 159) (host := "ParetoDesk") 3 hts gc_X10_withBit rfl rfl rfl (hT.2.2.2.2.1 ("ParetoDesk$Parser", 159, yX10_withBit, "ParetoDesk") (by decide)) (hts (.initialized RX10) wd_35) (by decide +kernel) ⟨Nat.le_of_ble_eq_true rfl, Nat.le_of_ble_eq_true rfl⟩, (hts (.static yX10_withBit) wd_965), trivial⟩ ⟨fun a U g mk q => by obtain ⟨q0, q1, qP, qK, qD⟩ := q; exact ⟨q0, q1, qP, va_K.moved (u := U) (U := U.calling g mk a) (Vm.Alike.refl U.vm) qK, qD⟩, fun U hU hW => ⟨rfl, by rw [hU], by rw [hU]; exact hPc, va_K.moved hW.alike hK, hDc.weaken (fun _ _ _ _ => trivial)⟩⟩ rfl rfl hl.1 rfl (lv_room (Nat.le_of_ble_eq_true rfl)) dX5_readPair_117 ⟨Nat.zero_le _, Nat.zero_le _⟩) hS (fun q _ h => hFc q h) hFc (fun r117 u t H1 locs ht hvm hwp hB hz1 hk1 hS => ?_)
              obtain ⟨hP1, -, hD1⟩ := hB
              rw [ht] at hP1
              obtain ⟨hP, hD⟩ := va_join (wr := [(q_draft, .inr (8, [.int t_draft_items, .int t_draft_capacity, .int t_draft_limit, .int t_draft_mustSet, .int t_draft_neverSet, .int t_draft_hand, .ref q_draft_weight, .ref q_draft_gain, .ref q_draft_joy, .ref q_draft_bars, .ref q_draft_needs])), (q_draft_bars, .inl (C 0, 12, .inl (upd t_draft_bars r14.toNatClampNeg r100))), (q_draft_needs, .inl (C 0, 12, .inl t_draft_needs)), (q_text, .inl (C 1, 600, .inl t_text)), (q, .inr (5, [.ref q_draft, .int u33_11, .int u33_12, .ref q_text, .int t_length, .int u14_7, .int u14_8, .int u14_9, .int u14_10]))]) (w1 := []) hP hD [] [0, 1, 2, 3, 4] rfl rfl (by decide) (by decide) hk1 hFc hP1 hD1
              generalize H1 = H at hP hS ⊢
              have hP : va_P D vwCl [(q_draft, .inr (8, [.int t_draft_items, .int t_draft_capacity, .int t_draft_limit, .int t_draft_mustSet, .int t_draft_neverSet, .int t_draft_hand, .ref q_draft_weight, .ref q_draft_gain, .ref q_draft_joy, .ref q_draft_bars, .ref q_draft_needs])), (q_draft_bars, .inl (C 0, 12, .inl (upd t_draft_bars r14.toNatClampNeg r100))), (q_draft_needs, .inl (C 0, 12, .inl t_draft_needs)), (q_text, .inl (C 1, 600, .inl t_text)), (q, .inr (5, [.ref q_draft, .int u33_11, .int u33_12, .ref q_text, .int t_length, .int u14_7, .int u14_8, .int u14_9, .int u14_10]))] H := hP
              have hD : va_D A [(q_draft, .inr (8, [.int t_draft_items, .int t_draft_capacity, .int t_draft_limit, .int t_draft_mustSet, .int t_draft_neverSet, .int t_draft_hand, .ref q_draft_weight, .ref q_draft_gain, .ref q_draft_joy, .ref q_draft_bars, .ref q_draft_needs])), (q_draft_bars, .inl (C 0, 12, .inl (upd t_draft_bars r14.toNatClampNeg r100))), (q_draft_needs, .inl (C 0, 12, .inl t_draft_needs)), (q_text, .inl (C 1, 600, .inl t_text)), (q, .inr (5, [.ref q_draft, .int u33_11, .int u33_12, .ref q_text, .int t_length, .int u14_7, .int u14_8, .int u14_9, .int u14_10]))] := hD
              obtain ⟨hi120, hwp⟩ := hwp
              refine va_iast (D := D) hx hb hK hP hD hS 1 0 rfl rfl hi120 dX5_readPair_120 (fun H locs hP hD hS => ?_)
              have hP : va_P D vwCl [(q_draft, .inr (8, [.int t_draft_items, .int t_draft_capacity, .int t_draft_limit, .int t_draft_mustSet, .int t_draft_neverSet, .int t_draft_hand, .ref q_draft_weight, .ref q_draft_gain, .ref q_draft_joy, .ref q_draft_bars, .ref q_draft_needs])), (q_draft_bars, .inl (C 0, 12, .inl (upd (upd t_draft_bars r14.toNatClampNeg r100) u14_10.toNatClampNeg r117))), (q_draft_needs, .inl (C 0, 12, .inl t_draft_needs)), (q_text, .inl (C 1, 600, .inl t_text)), (q, .inr (5, [.ref q_draft, .int u33_11, .int u33_12, .ref q_text, .int t_length, .int u14_7, .int u14_8, .int u14_9, .int u14_10]))] H := hP
              have hD : va_D A [(q_draft, .inr (8, [.int t_draft_items, .int t_draft_capacity, .int t_draft_limit, .int t_draft_mustSet, .int t_draft_neverSet, .int t_draft_hand, .ref q_draft_weight, .ref q_draft_gain, .ref q_draft_joy, .ref q_draft_bars, .ref q_draft_needs])), (q_draft_bars, .inl (C 0, 12, .inl (upd (upd t_draft_bars r14.toNatClampNeg r100) u14_10.toNatClampNeg r117))), (q_draft_needs, .inl (C 0, 12, .inl t_draft_needs)), (q_text, .inl (C 1, 600, .inl t_text)), (q, .inr (5, [.ref q_draft, .int u33_11, .int u33_12, .ref q_text, .int t_length, .int u14_7, .int u14_8, .int u14_9, .int u14_10]))] := hD
              have hl9 := lv_sub (l' := [(0, .ref q)]) hl [3] rfl
              have hP9 := hP.sub (ws' := [(q, .inr (5, [.ref q_draft, .int u33_11, .int u33_12, .ref q_text, .int t_length, .int u14_7, .int u14_8, .int u14_9, .int u14_10])), (q_text, .inl (C 1, 600, .inl t_text)), (q_draft, .inr (8, [.int t_draft_items, .int t_draft_capacity, .int t_draft_limit, .int t_draft_mustSet, .int t_draft_neverSet, .int t_draft_hand, .ref q_draft_weight, .ref q_draft_gain, .ref q_draft_joy, .ref q_draft_bars, .ref q_draft_needs])), (q_draft_bars, .inl (C 0, 12, .inl (upd (upd t_draft_bars r14.toNatClampNeg r100) u14_10.toNatClampNeg r117))), (q_draft_needs, .inl (C 0, 12, .inl t_draft_needs))]) [4, 3, 0, 1, 2] rfl
              have hD9 := hD.sub (ws' := [(q, .inr (5, [.ref q_draft, .int u33_11, .int u33_12, .ref q_text, .int t_length, .int u14_7, .int u14_8, .int u14_9, .int u14_10])), (q_text, .inl (C 1, 600, .inl t_text)), (q_draft, .inr (8, [.int t_draft_items, .int t_draft_capacity, .int t_draft_limit, .int t_draft_mustSet, .int t_draft_neverSet, .int t_draft_hand, .ref q_draft_weight, .ref q_draft_gain, .ref q_draft_joy, .ref q_draft_bars, .ref q_draft_needs])), (q_draft_bars, .inl (C 0, 12, .inl (upd (upd t_draft_bars r14.toNatClampNeg r100) u14_10.toNatClampNeg r117))), (q_draft_needs, .inl (C 0, 12, .inl t_draft_needs))]) [4, 3, 0, 1, 2] (by decide) rfl
              exact HB121 u33_11 u33_12 u14_7 u14_8 u14_9 u14_10 (upd (upd t_draft_bars r14.toNatClampNeg r100) u14_10.toNatClampNeg r117) t_draft_needs H locs ls hl9 hP9 hD9 hS hwp
          · have hwp := hwp.2 c82
            have hl9 := lv_sub (l' := [(0, .ref q)]) hl [3] rfl
            have hP9 := hP.sub (ws' := [(q, .inr (5, [.ref q_draft, .int u33_11, .int u33_12, .ref q_text, .int t_length, .int u14_7, .int u14_8, .int u14_9, .int u14_10])), (q_text, .inl (C 1, 600, .inl t_text)), (q_draft, .inr (8, [.int t_draft_items, .int t_draft_capacity, .int t_draft_limit, .int t_draft_mustSet, .int t_draft_neverSet, .int t_draft_hand, .ref q_draft_weight, .ref q_draft_gain, .ref q_draft_joy, .ref q_draft_bars, .ref q_draft_needs])), (q_draft_bars, .inl (C 0, 12, .inl t_draft_bars)), (q_draft_needs, .inl (C 0, 12, .inl t_draft_needs))]) [4, 3, 0, 1, 2] rfl
            have hD9 := hD.sub (ws' := [(q, .inr (5, [.ref q_draft, .int u33_11, .int u33_12, .ref q_text, .int t_length, .int u14_7, .int u14_8, .int u14_9, .int u14_10])), (q_text, .inl (C 1, 600, .inl t_text)), (q_draft, .inr (8, [.int t_draft_items, .int t_draft_capacity, .int t_draft_limit, .int t_draft_mustSet, .int t_draft_neverSet, .int t_draft_hand, .ref q_draft_weight, .ref q_draft_gain, .ref q_draft_joy, .ref q_draft_bars, .ref q_draft_needs])), (q_draft_bars, .inl (C 0, 12, .inl t_draft_bars)), (q_draft_needs, .inl (C 0, 12, .inl t_draft_needs))]) [4, 3, 0, 1, 2] (by decide) rfl
            exact HB85 u33_11 u33_12 u14_7 u14_8 u14_9 u14_10 t_draft_bars t_draft_needs H locs ls hl9 hP9 hD9 hS hwp
    · have hwp := hwp.2 c36
      refine lv_iconst (v := 0) hx hb dX5_readPair_39 (by decide) ?_
      have hP9 := hP.sub (ws' := [(q, .inr (5, [.ref q_draft, .int u33_11, .int u33_12, .ref q_text, .int t_length, .int u14_7, .int u14_8, .int u14_9, .int u14_10])), (q_text, .inl (C 1, 600, .inl t_text)), (q_draft, .inr (8, [.int t_draft_items, .int t_draft_capacity, .int t_draft_limit, .int t_draft_mustSet, .int t_draft_neverSet, .int t_draft_hand, .ref q_draft_weight, .ref q_draft_gain, .ref q_draft_joy, .ref q_draft_bars, .ref q_draft_needs])), (q_draft_bars, .inl (C 0, 12, .inl t_draft_bars)), (q_draft_needs, .inl (C 0, 12, .inl t_draft_needs))]) [4, 3, 0, 1, 2] rfl
      have hD9 := hD.sub (ws' := [(q, .inr (5, [.ref q_draft, .int u33_11, .int u33_12, .ref q_text, .int t_length, .int u14_7, .int u14_8, .int u14_9, .int u14_10])), (q_text, .inl (C 1, 600, .inl t_text)), (q_draft, .inr (8, [.int t_draft_items, .int t_draft_capacity, .int t_draft_limit, .int t_draft_mustSet, .int t_draft_neverSet, .int t_draft_hand, .ref q_draft_weight, .ref q_draft_gain, .ref q_draft_joy, .ref q_draft_bars, .ref q_draft_needs])), (q_draft_bars, .inl (C 0, 12, .inl t_draft_bars)), (q_draft_needs, .inl (C 0, 12, .inl t_draft_needs))]) [4, 3, 0, 1, 2] (by decide) rfl
      exact W.zret (v := (0 : Int32)) (ty := .boolean) hx hb hr rfl (fun t ht hW => ⟨⟨(0 : Int32), (u33_11, u33_12, u14_7, u14_8, u14_9, u14_10, t_draft_bars, t_draft_needs), rfl, hwp, by rw [ht]; exact hP9, va_K.moved hW.alike hK, hD9⟩, hS.F ht⟩) hS.2.2 dX5_readPair_40
abbrev ws_X5_readSingle : List Cond := .code yX5_readSingle cX5_readSingle 3 (some .boolean) :: WALL
abbrev rm_X5_readSingle : Room := { frames := 3, cells := 0, slots := 0, locals := 61 }
abbrev w_X5_readSingle (C : Nat → ClassId) (q : Nat) (q_draft : Nat) (q_text : Nat) (q_draft_weight : Nat) (q_draft_gain : Nat) (q_draft_joy : Nat) (q_draft_bars : Nat) (q_draft_needs : Nat) (t_code : Int32) (t_place : Int32) (t_length : Int32) (t_kind : Int32) (t_start : Int32) (t_next : Int32) (t_value : Int32) (t_text : Nat → Int32) (t_draft_items : Int32) (t_draft_capacity : Int32) (t_draft_limit : Int32) (t_draft_mustSet : Int32) (t_draft_neverSet : Int32) (t_draft_hand : Int32) : va_W := [(q, .inr (5, [.ref q_draft, .int t_code, .int t_place, .ref q_text, .int t_length, .int t_kind, .int t_start, .int t_next, .int t_value])), (q_text, .inl (C 1, 600, .inl t_text)), (q_draft, .inr (8, [.int t_draft_items, .int t_draft_capacity, .int t_draft_limit, .int t_draft_mustSet, .int t_draft_neverSet, .int t_draft_hand, .ref q_draft_weight, .ref q_draft_gain, .ref q_draft_joy, .ref q_draft_bars, .ref q_draft_needs]))]
abbrev q_X5_readSingle (D : va_G) (C : Nat → ClassId) (q : Nat) (q_draft : Nat) (q_text : Nat) (q_draft_weight : Nat) (q_draft_gain : Nat) (q_draft_joy : Nat) (q_draft_bars : Nat) (q_draft_needs : Nat) (t_length : Int32) (t_text : Nat → Int32) (t_draft_items : Int32) (t_draft_capacity : Int32) (t_draft_limit : Int32) (t_draft_hand : Int32) (Q : Int32 → Int32 → Int32 → Int32 → Int32 → Int32 → Int32 → Int32 → Int32 → Prop) (A : Nat → Prop) : Array Value → State → Outcome → State → Prop := va_Qi (fun (r : Int32) (u : Int32 × Int32 × Int32 × Int32 × Int32 × Int32 × Int32 × Int32) => Q r u.1 u.2.1 u.2.2.1 u.2.2.2.1 u.2.2.2.2.1 u.2.2.2.2.2.1 u.2.2.2.2.2.2.1 u.2.2.2.2.2.2.2) (fun (u : Int32 × Int32 × Int32 × Int32 × Int32 × Int32 × Int32 × Int32) (t : State) => va_P D vwCl (w_X5_readSingle C q q_draft q_text q_draft_weight q_draft_gain q_draft_joy q_draft_bars q_draft_needs u.1 u.2.1 t_length u.2.2.1 u.2.2.2.1 u.2.2.2.2.1 u.2.2.2.2.2.1 t_text t_draft_items t_draft_capacity t_draft_limit u.2.2.2.2.2.2.1 u.2.2.2.2.2.2.2 t_draft_hand) t.heap ∧ va_K D vwCl (tyL C) t ∧ va_D A (w_X5_readSingle C q q_draft q_text q_draft_weight q_draft_gain q_draft_joy q_draft_bars q_draft_needs u.1 u.2.1 t_length u.2.2.1 u.2.2.2.1 u.2.2.2.2.1 u.2.2.2.2.2.1 t_text t_draft_items t_draft_capacity t_draft_limit u.2.2.2.2.2.2.1 u.2.2.2.2.2.2.2 t_draft_hand)) A
set_option maxHeartbeats 4000000 in
set_option maxRecDepth 100000 in
theorem met_X5_readSingle (l : Launch) (hst : l.stackTraces = false) (D : va_G) (C : Nat → ClassId) (q : Nat) (q_draft : Nat) (q_text : Nat) (q_draft_weight : Nat) (q_draft_gain : Nat) (q_draft_joy : Nat) (q_draft_bars : Nat) (q_draft_needs : Nat) (p1 : Int32) (t_code : Int32) (t_place : Int32) (t_length : Int32) (t_kind : Int32) (t_start : Int32) (t_next : Int32) (t_value : Int32) (t_text : Nat → Int32) (t_draft_items : Int32) (t_draft_capacity : Int32) (t_draft_limit : Int32) (t_draft_mustSet : Int32) (t_draft_neverSet : Int32) (t_draft_hand : Int32) (sz : Nat) (Q : Int32 → Int32 → Int32 → Int32 → Int32 → Int32 → Int32 → Int32 → Int32 → Prop) (hwp : wp_X5_readSingle p1 t_code t_place t_length t_kind t_start t_next t_value t_text t_draft_items t_draft_mustSet t_draft_neverSet Q) : Met l yX5_readSingle ws_X5_readSingle rm_X5_readSingle (va_Pc [.ref q, .int p1] (fun U => U.heap.size = sz ∧ va_P D vwCl (w_X5_readSingle C q q_draft q_text q_draft_weight q_draft_gain q_draft_joy q_draft_bars q_draft_needs t_code t_place t_length t_kind t_start t_next t_value t_text t_draft_items t_draft_capacity t_draft_limit t_draft_mustSet t_draft_neverSet t_draft_hand) U.heap ∧ va_K D vwCl (tyL C) U ∧ va_D (fun _ => True) (w_X5_readSingle C q q_draft q_text q_draft_weight q_draft_gain q_draft_joy q_draft_bars q_draft_needs t_code t_place t_length t_kind t_start t_next t_value t_text t_draft_items t_draft_capacity t_draft_limit t_draft_mustSet t_draft_neverSet t_draft_hand) ∧ TX (va_A (w_X5_readSingle C q q_draft q_text q_draft_weight q_draft_gain q_draft_joy q_draft_bars q_draft_needs t_code t_place t_length t_kind t_start t_next t_value t_text t_draft_items t_draft_capacity t_draft_limit t_draft_mustSet t_draft_neverSet t_draft_hand) sz) U U.heap)) (q_X5_readSingle D C q q_draft q_text q_draft_weight q_draft_gain q_draft_joy q_draft_bars q_draft_needs t_length t_text t_draft_items t_draft_capacity t_draft_limit t_draft_hand Q (va_A (w_X5_readSingle C q q_draft q_text q_draft_weight q_draft_gain q_draft_joy q_draft_bars q_draft_needs t_code t_place t_length t_kind t_start t_next t_value t_text t_draft_items t_draft_capacity t_draft_limit t_draft_mustSet t_draft_neverSet t_draft_hand) sz)) 0 0 (va_A (w_X5_readSingle C q q_draft q_text q_draft_weight q_draft_gain q_draft_joy q_draft_bars q_draft_needs t_code t_place t_length t_kind t_start t_next t_value t_text t_draft_items t_draft_capacity t_draft_limit t_draft_mustSet t_draft_neverSet t_draft_hand) sz) := by
  refine Met.ofW (cc := cX5_readSingle) (maxL := 3) (ret := (some .boolean)) (by decide) rfl ?_
  intro p e s m args below meth c s₁ B hml hv
  obtain ⟨rfl, hsz, hP, hK, hD0, hT⟩ := hv
  have hx := B.exec
  have hb := B.bytes
  have hr := B.returns
  have hts : ∀ w ∈ WALL, w.before _ s = true := fun w h => atoms_spec (ws := ws_X5_readSingle) B.pre w (List.mem_cons_of_mem _ h)
  have hown : s.vm.findClass RX5 = some m.cls := findClass_of_methodNamed B.named
  have hlocks := B.notSynchronized
  subst hsz
  have hD := hD0.self (sz := s.heap.size)
  generalize hAe : va_A (w_X5_readSingle C q q_draft q_text q_draft_weight q_draft_gain q_draft_joy q_draft_bars q_draft_needs t_code t_place t_length t_kind t_start t_next t_value t_text t_draft_items t_draft_capacity t_draft_limit t_draft_mustSet t_draft_neverSet t_draft_hand) s.heap.size = A at hD ⊢ hT
  have hA : ∀ q : Nat, s.heap.size ≤ q → A q := fun q h => by rw [← hAe]; exact Or.inr h
  have hS : va_S A s.heap s.heap [] := va_S.rf
  have hl := lv_entry ([.ref q, .int p1]) (n := 3) (Nat.le_of_ble_eq_true rfl)
  rw [lg_entry_eq]
  generalize (lg_sl ([.ref q, .int p1]) ++ List.replicate (3 - (lg_sl ([.ref q, .int p1])).length) Slot.unset).toArray = ls at hl ⊢
  have hl : lv_has ls 3 [(0, .ref q), (1, .int p1)] := hl
  have HB100 : ∀  (t_code : Int32) (t_place : Int32) (t_kind : Int32) (t_start : Int32) (t_next : Int32) (t_value : Int32) (t_draft_mustSet : Int32) (t_draft_neverSet : Int32) (H : Heap) (locs : List Loc) (ls : Array Slot), lv_has ls 3 [(0, .ref q)] → va_P D vwCl [(q, .inr (5, [.ref q_draft, .int t_code, .int t_place, .ref q_text, .int t_length, .int t_kind, .int t_start, .int t_next, .int t_value])), (q_text, .inl (C 1, 600, .inl t_text)), (q_draft, .inr (8, [.int t_draft_items, .int t_draft_capacity, .int t_draft_limit, .int t_draft_mustSet, .int t_draft_neverSet, .int t_draft_hand, .ref q_draft_weight, .ref q_draft_gain, .ref q_draft_joy, .ref q_draft_bars, .ref q_draft_needs]))] H → va_D A [(q, .inr (5, [.ref q_draft, .int t_code, .int t_place, .ref q_text, .int t_length, .int t_kind, .int t_start, .int t_next, .int t_value])), (q_text, .inl (C 1, 600, .inl t_text)), (q_draft, .inr (8, [.int t_draft_items, .int t_draft_capacity, .int t_draft_limit, .int t_draft_mustSet, .int t_draft_neverSet, .int t_draft_hand, .ref q_draft_weight, .ref q_draft_gain, .ref q_draft_joy, .ref q_draft_bars, .ref q_draft_needs]))] → va_S A s.heap H locs → wp_X5_readSingle_b100 t_length t_text t_draft_items Q t_code t_place t_kind t_start t_next t_value t_draft_mustSet t_draft_neverSet → W p l e (headSpec ws_X5_readSingle rm_X5_readSingle).room s m ([.ref q, .int p1] : List Value).toArray below meth c H locs 0 0 (MQ below (q_X5_readSingle D C q q_draft q_text q_draft_weight q_draft_gain q_draft_joy q_draft_bars q_draft_needs t_length t_text t_draft_items t_draft_capacity t_draft_limit t_draft_hand Q A) ([.ref q, .int p1] : List Value).toArray s 0 0 A) (F0 m 100 ls []) := by
    intro t_code t_place t_kind t_start t_next t_value t_draft_mustSet t_draft_neverSet H locs ls hl hP hD hS hwp
    unfold wp_X5_readSingle_b100 at hwp
    refine lv_aload_n hx hb dX5_readSingle_100 rfl (lv_at hl 0 rfl) ?_
    have hPc := hP.sub (ws' := [(q, .inr (5, [.ref q_draft, .int t_code, .int t_place, .ref q_text, .int t_length, .int t_kind, .int t_start, .int t_next, .int t_value])), (q_text, .inl (C 1, 600, .inl t_text))]) [0, 1] rfl
    have hDc := hD.sub (ws' := [(q, .inr (5, [.ref q_draft, .int t_code, .int t_place, .ref q_text, .int t_length, .int t_kind, .int t_start, .int t_next, .int t_value])), (q_text, .inl (C 1, 600, .inl t_text))]) [0, 1] (by decide) rfl
    have hFc := va_free (wc := [(q, .inr (5, [.ref q_draft, .int t_code, .int t_place, .ref q_text, .int t_length, .int t_kind, .int t_start, .int t_next, .int t_value])), (q_text, .inl (C 1, 600, .inl t_text))]) hD hS hA [0, 1] rfl
    refine va_callv (va_runV (As := []) (rest := []) ⟨hx, hb, hml, hown, hts⟩ (met_X5_advance l D C q q_draft q_text t_code t_place t_length t_kind t_start t_next t_value t_text H.size _ hwp) (cwV 0 hts gc_X5_44 rfl rfl rfl (by decide +kernel) ⟨Nat.le_of_ble_eq_true rfl, Nat.le_of_ble_eq_true rfl⟩) ⟨fun a U g mk q => by obtain ⟨q0, q1, qP, qK, qD⟩ := q; exact ⟨q0, q1, qP, va_K.moved (u := U) (U := U.calling g mk a) (Vm.Alike.refl U.vm) qK, qD⟩, va_recv hK hPc (ci := 5) (q0 := 0) rfl rfl, fun U hU hW => ⟨rfl, by rw [hU], by rw [hU]; exact hPc, va_K.moved hW.alike hK, hDc.weaken (fun _ _ _ _ => trivial)⟩⟩ rfl rfl hl.1 rfl (lv_room (Nat.le_of_ble_eq_true rfl)) dX5_readSingle_101 ⟨Nat.zero_le _, Nat.zero_le _⟩) hS (fun q _ h => hFc q h) hFc (fun u t H1 locs ht hvm hwp hB hz1 hk1 hS => ?_)
    obtain ⟨u101_7, u101_8, u101_9, u101_10⟩ := u
    obtain ⟨hP1, -, hD1⟩ := hB
    rw [ht] at hP1
    obtain ⟨hP, hD⟩ := va_join (wr := [(q_draft, .inr (8, [.int t_draft_items, .int t_draft_capacity, .int t_draft_limit, .int t_draft_mustSet, .int t_draft_neverSet, .int t_draft_hand, .ref q_draft_weight, .ref q_draft_gain, .ref q_draft_joy, .ref q_draft_bars, .ref q_draft_needs]))]) (w1 := [(q, .inr (5, [.ref q_draft, .int t_code, .int t_place, .ref q_text, .int t_length, .int u101_7, .int u101_8, .int u101_9, .int u101_10])), (q_text, .inl (C 1, 600, .inl t_text))]) hP hD [0, 1] [2] rfl rfl (by decide) (by decide) hk1 hFc hP1 hD1
    generalize H1 = H at hP hS ⊢
    have hP : va_P D vwCl [(q_draft, .inr (8, [.int t_draft_items, .int t_draft_capacity, .int t_draft_limit, .int t_draft_mustSet, .int t_draft_neverSet, .int t_draft_hand, .ref q_draft_weight, .ref q_draft_gain, .ref q_draft_joy, .ref q_draft_bars, .ref q_draft_needs])), (q, .inr (5, [.ref q_draft, .int t_code, .int t_place, .ref q_text, .int t_length, .int u101_7, .int u101_8, .int u101_9, .int u101_10])), (q_text, .inl (C 1, 600, .inl t_text))] H := hP
    have hD : va_D A [(q_draft, .inr (8, [.int t_draft_items, .int t_draft_capacity, .int t_draft_limit, .int t_draft_mustSet, .int t_draft_neverSet, .int t_draft_hand, .ref q_draft_weight, .ref q_draft_gain, .ref q_draft_joy, .ref q_draft_bars, .ref q_draft_needs])), (q, .inr (5, [.ref q_draft, .int t_code, .int t_place, .ref q_text, .int t_length, .int u101_7, .int u101_8, .int u101_9, .int u101_10])), (q_text, .inl (C 1, 600, .inl t_text))] := hD
    refine lv_aload_n hx hb dX5_readSingle_104 rfl (lv_at hl 0 rfl) ?_
    have hPc := hP.sub (ws' := [(q, .inr (5, [.ref q_draft, .int t_code, .int t_place, .ref q_text, .int t_length, .int u101_7, .int u101_8, .int u101_9, .int u101_10])), (q_text, .inl (C 1, 600, .inl t_text))]) [1, 2] rfl
    have hDc := hD.sub (ws' := [(q, .inr (5, [.ref q_draft, .int t_code, .int t_place, .ref q_text, .int t_length, .int u101_7, .int u101_8, .int u101_9, .int u101_10])), (q_text, .inl (C 1, 600, .inl t_text))]) [1, 2] (by decide) rfl
    have hFc := va_free (wc := [(q, .inr (5, [.ref q_draft, .int t_code, .int t_place, .ref q_text, .int t_length, .int u101_7, .int u101_8, .int u101_9, .int u101_10])), (q_text, .inl (C 1, 600, .inl t_text))]) hD hS hA [1, 2] rfl
    refine va_calli (va_runV (As := []) (rest := []) ⟨hx, hb, hml, hown, hts⟩ (met_X5_passEnd l D C q q_draft q_text t_code t_place t_length u101_7 u101_8 u101_9 u101_10 t_text H.size _ hwp) (cwV 0 hts gc_X5_112 rfl rfl rfl (by decide +kernel) ⟨Nat.le_of_ble_eq_true rfl, Nat.le_of_ble_eq_true rfl⟩) ⟨fun a U g mk q => by obtain ⟨q0, q1, qP, qK, qD⟩ := q; exact ⟨q0, q1, qP, va_K.moved (u := U) (U := U.calling g mk a) (Vm.Alike.refl U.vm) qK, qD⟩, va_recv hK hPc (ci := 5) (q0 := 0) rfl rfl, fun U hU hW => ⟨rfl, by rw [hU], by rw [hU]; exact hPc, va_K.moved hW.alike hK, hDc.weaken (fun _ _ _ _ => trivial)⟩⟩ rfl rfl hl.1 rfl (lv_room (Nat.le_of_ble_eq_true rfl)) dX5_readSingle_105 ⟨Nat.zero_le _, Nat.zero_le _⟩) hS (fun q _ h => hFc q h) hFc (fun r105 u t H1 locs ht hvm hwp hB hz1 hk1 hS => ?_)
    obtain ⟨u105_11, u105_12, u105_13, u105_14, u105_15, u105_16⟩ := u
    obtain ⟨hP1, -, hD1⟩ := hB
    rw [ht] at hP1
    obtain ⟨hP, hD⟩ := va_join (wr := [(q_draft, .inr (8, [.int t_draft_items, .int t_draft_capacity, .int t_draft_limit, .int t_draft_mustSet, .int t_draft_neverSet, .int t_draft_hand, .ref q_draft_weight, .ref q_draft_gain, .ref q_draft_joy, .ref q_draft_bars, .ref q_draft_needs]))]) (w1 := [(q, .inr (5, [.ref q_draft, .int u105_11, .int u105_12, .ref q_text, .int t_length, .int u105_13, .int u105_14, .int u105_15, .int u105_16])), (q_text, .inl (C 1, 600, .inl t_text))]) hP hD [1, 2] [0] rfl rfl (by decide) (by decide) hk1 hFc hP1 hD1
    generalize H1 = H at hP hS ⊢
    have hP : va_P D vwCl [(q_draft, .inr (8, [.int t_draft_items, .int t_draft_capacity, .int t_draft_limit, .int t_draft_mustSet, .int t_draft_neverSet, .int t_draft_hand, .ref q_draft_weight, .ref q_draft_gain, .ref q_draft_joy, .ref q_draft_bars, .ref q_draft_needs])), (q, .inr (5, [.ref q_draft, .int u105_11, .int u105_12, .ref q_text, .int t_length, .int u105_13, .int u105_14, .int u105_15, .int u105_16])), (q_text, .inl (C 1, 600, .inl t_text))] H := hP
    have hD : va_D A [(q_draft, .inr (8, [.int t_draft_items, .int t_draft_capacity, .int t_draft_limit, .int t_draft_mustSet, .int t_draft_neverSet, .int t_draft_hand, .ref q_draft_weight, .ref q_draft_gain, .ref q_draft_joy, .ref q_draft_bars, .ref q_draft_needs])), (q, .inr (5, [.ref q_draft, .int u105_11, .int u105_12, .ref q_text, .int t_length, .int u105_13, .int u105_14, .int u105_15, .int u105_16])), (q_text, .inl (C 1, 600, .inl t_text))] := hD
    have hP9 := hP.sub (ws' := [(q, .inr (5, [.ref q_draft, .int u105_11, .int u105_12, .ref q_text, .int t_length, .int u105_13, .int u105_14, .int u105_15, .int u105_16])), (q_text, .inl (C 1, 600, .inl t_text)), (q_draft, .inr (8, [.int t_draft_items, .int t_draft_capacity, .int t_draft_limit, .int t_draft_mustSet, .int t_draft_neverSet, .int t_draft_hand, .ref q_draft_weight, .ref q_draft_gain, .ref q_draft_joy, .ref q_draft_bars, .ref q_draft_needs]))]) [1, 2, 0] rfl
    have hD9 := hD.sub (ws' := [(q, .inr (5, [.ref q_draft, .int u105_11, .int u105_12, .ref q_text, .int t_length, .int u105_13, .int u105_14, .int u105_15, .int u105_16])), (q_text, .inl (C 1, 600, .inl t_text)), (q_draft, .inr (8, [.int t_draft_items, .int t_draft_capacity, .int t_draft_limit, .int t_draft_mustSet, .int t_draft_neverSet, .int t_draft_hand, .ref q_draft_weight, .ref q_draft_gain, .ref q_draft_joy, .ref q_draft_bars, .ref q_draft_needs]))]) [1, 2, 0] (by decide) rfl
    obtain ⟨hn9, hwp⟩ := hwp
    exact W.zret (v := r105) (ty := .boolean) hx hb hr hn9 (fun t ht hW => ⟨⟨r105, (u105_11, u105_12, u105_13, u105_14, u105_15, u105_16, t_draft_mustSet, t_draft_neverSet), rfl, hwp, by rw [ht]; exact hP9, va_K.moved hW.alike hK, hD9⟩, hS.F ht⟩) hS.2.2 dX5_readSingle_108
  unfold wp_X5_readSingle at hwp
  obtain ⟨H, hH⟩ : ∃ H, H = s.heap := ⟨_, rfl⟩
  obtain ⟨locs, hlo⟩ : ∃ z : List Loc, z = [] := ⟨_, rfl⟩
  have hP : va_P D vwCl [(q, .inr (5, [.ref q_draft, .int t_code, .int t_place, .ref q_text, .int t_length, .int t_kind, .int t_start, .int t_next, .int t_value])), (q_text, .inl (C 1, 600, .inl t_text)), (q_draft, .inr (8, [.int t_draft_items, .int t_draft_capacity, .int t_draft_limit, .int t_draft_mustSet, .int t_draft_neverSet, .int t_draft_hand, .ref q_draft_weight, .ref q_draft_gain, .ref q_draft_joy, .ref q_draft_bars, .ref q_draft_needs]))] H := by rw [hH]; exact hP
  have hD : va_D A [(q, .inr (5, [.ref q_draft, .int t_code, .int t_place, .ref q_text, .int t_length, .int t_kind, .int t_start, .int t_next, .int t_value])), (q_text, .inl (C 1, 600, .inl t_text)), (q_draft, .inr (8, [.int t_draft_items, .int t_draft_capacity, .int t_draft_limit, .int t_draft_mustSet, .int t_draft_neverSet, .int t_draft_hand, .ref q_draft_weight, .ref q_draft_gain, .ref q_draft_joy, .ref q_draft_bars, .ref q_draft_needs]))] := hD
  have hS : va_S A s.heap H locs := by rw [hH, hlo]; exact hS
  suffices K : W p l e (headSpec ws_X5_readSingle rm_X5_readSingle).room s m ([.ref q, .int p1] : List Value).toArray below meth c H locs 0 0 (MQ below (q_X5_readSingle D C q q_draft q_text q_draft_weight q_draft_gain q_draft_joy q_draft_bars q_draft_needs t_length t_text t_draft_items t_draft_capacity t_draft_limit t_draft_hand Q A) ([.ref q, .int p1] : List Value).toArray s 0 0 A) (F0 m 0 ls []) from by rw [hH, hlo] at K; exact K
  refine lv_aload_n hx hb dX5_readSingle_0 rfl (lv_at hl 0 rfl) ?_
  have hPc := hP.sub (ws' := [(q, .inr (5, [.ref q_draft, .int t_code, .int t_place, .ref q_text, .int t_length, .int t_kind, .int t_start, .int t_next, .int t_value])), (q_text, .inl (C 1, 600, .inl t_text))]) [0, 1] rfl
  have hDc := hD.sub (ws' := [(q, .inr (5, [.ref q_draft, .int t_code, .int t_place, .ref q_text, .int t_length, .int t_kind, .int t_start, .int t_next, .int t_value])), (q_text, .inl (C 1, 600, .inl t_text))]) [0, 1] (by decide) rfl
  have hFc := va_free (wc := [(q, .inr (5, [.ref q_draft, .int t_code, .int t_place, .ref q_text, .int t_length, .int t_kind, .int t_start, .int t_next, .int t_value])), (q_text, .inl (C 1, 600, .inl t_text))]) hD hS hA [0, 1] rfl
  refine va_callv (va_runV (As := []) (rest := []) ⟨hx, hb, hml, hown, hts⟩ (met_X5_advance l D C q q_draft q_text t_code t_place t_length t_kind t_start t_next t_value t_text H.size _ hwp) (cwV 0 hts gc_X5_44 rfl rfl rfl (by decide +kernel) ⟨Nat.le_of_ble_eq_true rfl, Nat.le_of_ble_eq_true rfl⟩) ⟨fun a U g mk q => by obtain ⟨q0, q1, qP, qK, qD⟩ := q; exact ⟨q0, q1, qP, va_K.moved (u := U) (U := U.calling g mk a) (Vm.Alike.refl U.vm) qK, qD⟩, va_recv hK hPc (ci := 5) (q0 := 0) rfl rfl, fun U hU hW => ⟨rfl, by rw [hU], by rw [hU]; exact hPc, va_K.moved hW.alike hK, hDc.weaken (fun _ _ _ _ => trivial)⟩⟩ rfl rfl hl.1 rfl (lv_room (Nat.le_of_ble_eq_true rfl)) dX5_readSingle_1 ⟨Nat.zero_le _, Nat.zero_le _⟩) hS (fun q _ h => hFc q h) hFc (fun u t H1 locs ht hvm hwp hB hz1 hk1 hS => ?_)
  obtain ⟨u1_1, u1_2, u1_3, u1_4⟩ := u
  obtain ⟨hP1, -, hD1⟩ := hB
  rw [ht] at hP1
  obtain ⟨hP, hD⟩ := va_join (wr := [(q_draft, .inr (8, [.int t_draft_items, .int t_draft_capacity, .int t_draft_limit, .int t_draft_mustSet, .int t_draft_neverSet, .int t_draft_hand, .ref q_draft_weight, .ref q_draft_gain, .ref q_draft_joy, .ref q_draft_bars, .ref q_draft_needs]))]) (w1 := [(q, .inr (5, [.ref q_draft, .int t_code, .int t_place, .ref q_text, .int t_length, .int u1_1, .int u1_2, .int u1_3, .int u1_4])), (q_text, .inl (C 1, 600, .inl t_text))]) hP hD [0, 1] [2] rfl rfl (by decide) (by decide) hk1 hFc hP1 hD1
  generalize H1 = H at hP hS ⊢
  have hP : va_P D vwCl [(q_draft, .inr (8, [.int t_draft_items, .int t_draft_capacity, .int t_draft_limit, .int t_draft_mustSet, .int t_draft_neverSet, .int t_draft_hand, .ref q_draft_weight, .ref q_draft_gain, .ref q_draft_joy, .ref q_draft_bars, .ref q_draft_needs])), (q, .inr (5, [.ref q_draft, .int t_code, .int t_place, .ref q_text, .int t_length, .int u1_1, .int u1_2, .int u1_3, .int u1_4])), (q_text, .inl (C 1, 600, .inl t_text))] H := hP
  have hD : va_D A [(q_draft, .inr (8, [.int t_draft_items, .int t_draft_capacity, .int t_draft_limit, .int t_draft_mustSet, .int t_draft_neverSet, .int t_draft_hand, .ref q_draft_weight, .ref q_draft_gain, .ref q_draft_joy, .ref q_draft_bars, .ref q_draft_needs])), (q, .inr (5, [.ref q_draft, .int t_code, .int t_place, .ref q_text, .int t_length, .int u1_1, .int u1_2, .int u1_3, .int u1_4])), (q_text, .inl (C 1, 600, .inl t_text))] := hD
  refine lv_aload_n hx hb dX5_readSingle_4 rfl (lv_at hl 0 rfl) ?_
  refine lv_aload_n hx hb dX5_readSingle_5 rfl (lv_at hl 0 rfl) ?_
  refine va_get (D := D) (ci := 5) (v := .ref q_draft) (C := RX5) (T := TX5) (N := 9) hx hb hts iwX5 hown hK hP 1 rfl rfl 0 (by decide) (hts (.fieldLink RX5 12 "ParetoDesk$Parser" "draft" "LParetoDesk$Setup;") wd_147) (fun _ h9 => h9) rfl dX5_readSingle_6 ?_
  refine va_get (D := D) (ci := 8) (v := .int t_draft_items) (C := RX8) (T := TX8) (N := 11) hx hb hts iwX8 hown hK hP 0 rfl rfl 0 (by decide) (hts (.fieldLink RX5 135 "ParetoDesk$Setup" "items" "I") wd_87) (fun _ h9 => h9) rfl dX5_readSingle_9 ?_
  refine lv_iconst (v := 1) hx hb dX5_readSingle_12 (by decide) ?_
  refine lv_isub hx hb dX5_readSingle_13 ?_
  have hPc := hP.sub (ws' := [(q, .inr (5, [.ref q_draft, .int t_code, .int t_place, .ref q_text, .int t_length, .int u1_1, .int u1_2, .int u1_3, .int u1_4]))]) [1] rfl
  have hDc := hD.sub (ws' := [(q, .inr (5, [.ref q_draft, .int t_code, .int t_place, .ref q_text, .int t_length, .int u1_1, .int u1_2, .int u1_3, .int u1_4]))]) [1] (by decide) rfl
  have hFc := va_free (wc := [(q, .inr (5, [.ref q_draft, .int t_code, .int t_place, .ref q_text, .int t_length, .int u1_1, .int u1_2, .int u1_3, .int u1_4]))]) hD hS hA [1] rfl
  refine va_calli (va_runV (As := [.int (t_draft_items - (1 : Int32))]) (rest := []) ⟨hx, hb, hml, hown, hts⟩ (met_X5_checkNumber l D C q q_draft q_text (t_draft_items - (1 : Int32)) t_code t_place t_length u1_1 u1_2 u1_3 u1_4 H.size _ hwp) (cwV 1 hts gc_X5_94 rfl rfl rfl (by decide +kernel) ⟨Nat.le_of_ble_eq_true rfl, Nat.le_of_ble_eq_true rfl⟩) ⟨fun a U g mk q => by obtain ⟨q0, q1, qP, qK, qD⟩ := q; exact ⟨q0, q1, qP, va_K.moved (u := U) (U := U.calling g mk a) (Vm.Alike.refl U.vm) qK, qD⟩, va_recv hK hPc (ci := 5) (q0 := 0) rfl rfl, fun U hU hW => ⟨rfl, by rw [hU], by rw [hU]; exact hPc, va_K.moved hW.alike hK, hDc.weaken (fun _ _ _ _ => trivial)⟩⟩ rfl rfl hl.1 rfl (lv_room (Nat.le_of_ble_eq_true rfl)) dX5_readSingle_14 ⟨Nat.zero_le _, Nat.zero_le _⟩) hS (fun q _ h => hFc q h) hFc (fun r14 u t H1 locs ht hvm hwp hB hz1 hk1 hS => ?_)
  obtain ⟨u14_5, u14_6⟩ := u
  obtain ⟨hP1, -, hD1⟩ := hB
  rw [ht] at hP1
  obtain ⟨hP, hD⟩ := va_join (wr := [(q_draft, .inr (8, [.int t_draft_items, .int t_draft_capacity, .int t_draft_limit, .int t_draft_mustSet, .int t_draft_neverSet, .int t_draft_hand, .ref q_draft_weight, .ref q_draft_gain, .ref q_draft_joy, .ref q_draft_bars, .ref q_draft_needs])), (q_text, .inl (C 1, 600, .inl t_text))]) (w1 := [(q, .inr (5, [.ref q_draft, .int u14_5, .int u14_6, .ref q_text, .int t_length, .int u1_1, .int u1_2, .int u1_3, .int u1_4]))]) hP hD [1] [0, 2] rfl rfl (by decide) (by decide) hk1 hFc hP1 hD1
  generalize H1 = H at hP hS ⊢
  have hP : va_P D vwCl [(q_draft, .inr (8, [.int t_draft_items, .int t_draft_capacity, .int t_draft_limit, .int t_draft_mustSet, .int t_draft_neverSet, .int t_draft_hand, .ref q_draft_weight, .ref q_draft_gain, .ref q_draft_joy, .ref q_draft_bars, .ref q_draft_needs])), (q_text, .inl (C 1, 600, .inl t_text)), (q, .inr (5, [.ref q_draft, .int u14_5, .int u14_6, .ref q_text, .int t_length, .int u1_1, .int u1_2, .int u1_3, .int u1_4]))] H := hP
  have hD : va_D A [(q_draft, .inr (8, [.int t_draft_items, .int t_draft_capacity, .int t_draft_limit, .int t_draft_mustSet, .int t_draft_neverSet, .int t_draft_hand, .ref q_draft_weight, .ref q_draft_gain, .ref q_draft_joy, .ref q_draft_bars, .ref q_draft_needs])), (q_text, .inl (C 1, 600, .inl t_text)), (q, .inr (5, [.ref q_draft, .int u14_5, .int u14_6, .ref q_text, .int t_length, .int u1_1, .int u1_2, .int u1_3, .int u1_4]))] := hD
  refine lv_if_ne (tgt := 22) hx hb dX5_readSingle_17 (by decide) (fun c17 => ?_) (fun c17 => ?_)
  · have hwp := hwp.1 c17
    refine lv_iload_n hx hb dX5_readSingle_22 rfl (lv_at hl 1 rfl) ?_
    refine lv_if_eq (tgt := 36) hx hb dX5_readSingle_23 (by decide) (fun c23 => ?_) (fun c23 => ?_)
    · have hwp := hwp.1 c23
      refine lv_aload_n hx hb dX5_readSingle_36 rfl (lv_at hl 0 rfl) ?_
      refine va_get (D := D) (ci := 5) (v := .ref q_draft) (C := RX5) (T := TX5) (N := 9) hx hb hts iwX5 hown hK hP 2 rfl rfl 0 (by decide) (hts (.fieldLink RX5 12 "ParetoDesk$Parser" "draft" "LParetoDesk$Setup;") wd_147) (fun _ h9 => h9) rfl dX5_readSingle_37 ?_
      refine va_get (D := D) (ci := 8) (v := .int t_draft_neverSet) (C := RX8) (T := TX8) (N := 11) hx hb hts iwX8 hown hK hP 0 rfl rfl 4 (by decide) (hts (.fieldLink RX5 166 "ParetoDesk$Setup" "neverSet" "I") wd_102) (fun _ h9 => h9) rfl dX5_readSingle_40 ?_
      refine lv_istore_n (lv' := [(2, .int t_draft_neverSet), (0, .ref q), (1, .int p1)]) hx hb dX5_readSingle_43 rfl hl (by decide) rfl (fun ls hl => ?_)
      refine lv_iload_n hx hb dX5_readSingle_44 rfl (lv_at hl 0 rfl) ?_
      refine lv_aload_n hx hb dX5_readSingle_45 rfl (lv_at hl 1 rfl) ?_
      refine va_get (D := D) (ci := 5) (v := .int u1_4) (C := RX5) (T := TX5) (N := 9) hx hb hts iwX5 hown hK hP 2 rfl rfl 8 (by decide) (hts (.fieldLink RX5 60 "ParetoDesk$Parser" "value" "I") wd_158) (fun _ h9 => h9) rfl dX5_readSingle_46 ?_
      have hPc := hP.sub (ws' := []) [] rfl
      have hDc := hD.sub (ws' := []) [] (by decide) rfl
      have hFc := va_free (wc := []) hD hS hA [] rfl
      refine va_calli (va_runSN (As := [.int t_draft_neverSet, .int u1_4]) (rest := []) ⟨hx, hb, hml, hown, hts⟩ (met_X10_hasBit l D C t_draft_neverSet u1_4 H.size _ hwp) ⟨va_cnB (own := RX5) (index := 155) (host := "ParetoDesk") 2 hts gc_X10_hasBit rfl rfl rfl (hT.2.2.2.2.1 ("ParetoDesk$Parser", 155, yX10_hasBit, "ParetoDesk") (by decide)) (hts (.initialized RX10) wd_35) (by decide +kernel) ⟨Nat.le_of_ble_eq_true rfl, Nat.le_of_ble_eq_true rfl⟩, (hts (.static yX10_hasBit) wd_962), trivial⟩ ⟨fun a U g mk q => by obtain ⟨q0, q1, qP, qK, qD⟩ := q; exact ⟨q0, q1, qP, va_K.moved (u := U) (U := U.calling g mk a) (Vm.Alike.refl U.vm) qK, qD⟩, fun U hU hW => ⟨rfl, by rw [hU], by rw [hU]; exact hPc, va_K.moved hW.alike hK, hDc.weaken (fun _ _ _ _ => trivial)⟩⟩ rfl rfl hl.1 rfl (lv_room (Nat.le_of_ble_eq_true rfl)) dX5_readSingle_49 ⟨Nat.zero_le _, Nat.zero_le _⟩) hS (fun q _ h => hFc q h) hFc (fun r49 u t H1 locs ht hvm hwp hB hz1 hk1 hS => ?_)
      obtain ⟨hP1, -, hD1⟩ := hB
      rw [ht] at hP1
      obtain ⟨hP, hD⟩ := va_join (wr := [(q_draft, .inr (8, [.int t_draft_items, .int t_draft_capacity, .int t_draft_limit, .int t_draft_mustSet, .int t_draft_neverSet, .int t_draft_hand, .ref q_draft_weight, .ref q_draft_gain, .ref q_draft_joy, .ref q_draft_bars, .ref q_draft_needs])), (q_text, .inl (C 1, 600, .inl t_text)), (q, .inr (5, [.ref q_draft, .int u14_5, .int u14_6, .ref q_text, .int t_length, .int u1_1, .int u1_2, .int u1_3, .int u1_4]))]) (w1 := []) hP hD [] [0, 1, 2] rfl rfl (by decide) (by decide) hk1 hFc hP1 hD1
      generalize H1 = H at hP hS ⊢
      have hP : va_P D vwCl [(q_draft, .inr (8, [.int t_draft_items, .int t_draft_capacity, .int t_draft_limit, .int t_draft_mustSet, .int t_draft_neverSet, .int t_draft_hand, .ref q_draft_weight, .ref q_draft_gain, .ref q_draft_joy, .ref q_draft_bars, .ref q_draft_needs])), (q_text, .inl (C 1, 600, .inl t_text)), (q, .inr (5, [.ref q_draft, .int u14_5, .int u14_6, .ref q_text, .int t_length, .int u1_1, .int u1_2, .int u1_3, .int u1_4]))] H := hP
      have hD : va_D A [(q_draft, .inr (8, [.int t_draft_items, .int t_draft_capacity, .int t_draft_limit, .int t_draft_mustSet, .int t_draft_neverSet, .int t_draft_hand, .ref q_draft_weight, .ref q_draft_gain, .ref q_draft_joy, .ref q_draft_bars, .ref q_draft_needs])), (q_text, .inl (C 1, 600, .inl t_text)), (q, .inr (5, [.ref q_draft, .int u14_5, .int u14_6, .ref q_text, .int t_length, .int u1_1, .int u1_2, .int u1_3, .int u1_4]))] := hD
      refine lv_if_eq (tgt := 61) hx hb dX5_readSingle_52 (by decide) (fun c52 => ?_) (fun c52 => ?_)
      · have hwp := hwp.1 c52
        refine lv_iload_n hx hb dX5_readSingle_61 rfl (lv_at hl 2 rfl) ?_
        refine lv_if_eq (tgt := 84) hx hb dX5_readSingle_62 (by decide) (fun c62 => ?_) (fun c62 => ?_)
        · have hwp := hwp.1 c62
          refine lv_aload_n hx hb dX5_readSingle_84 rfl (lv_at hl 1 rfl) ?_
          refine va_get (D := D) (ci := 5) (v := .ref q_draft) (C := RX5) (T := TX5) (N := 9) hx hb hts iwX5 hown hK hP 2 rfl rfl 0 (by decide) (hts (.fieldLink RX5 12 "ParetoDesk$Parser" "draft" "LParetoDesk$Setup;") wd_147) (fun _ h9 => h9) rfl dX5_readSingle_85 ?_
          refine lv_iload_n hx hb dX5_readSingle_88 rfl (lv_at hl 0 rfl) ?_
          refine lv_aload_n hx hb dX5_readSingle_89 rfl (lv_at hl 1 rfl) ?_
          refine va_get (D := D) (ci := 5) (v := .int u1_4) (C := RX5) (T := TX5) (N := 9) hx hb hts iwX5 hown hK hP 2 rfl rfl 8 (by decide) (hts (.fieldLink RX5 60 "ParetoDesk$Parser" "value" "I") wd_158) (fun _ h9 => h9) rfl dX5_readSingle_90 ?_
          refine lv_iconst (v := 1) hx hb dX5_readSingle_93 (by decide) ?_
          have hPc := hP.sub (ws' := []) [] rfl
          have hDc := hD.sub (ws' := []) [] (by decide) rfl
          have hFc := va_free (wc := []) hD hS hA [] rfl
          refine va_calli (va_runSN (As := [.int t_draft_neverSet, .int u1_4, .int (1 : Int32)]) (rest := [.ref q_draft]) ⟨hx, hb, hml, hown, hts⟩ (met_X10_withBit l D C t_draft_neverSet u1_4 (1 : Int32) H.size _ hwp) ⟨va_cnB (own := RX5) (index := 159) (host := "ParetoDesk") 3 hts gc_X10_withBit rfl rfl rfl (hT.2.2.2.2.1 ("ParetoDesk$Parser", 159, yX10_withBit, "ParetoDesk") (by decide)) (hts (.initialized RX10) wd_35) (by decide +kernel) ⟨Nat.le_of_ble_eq_true rfl, Nat.le_of_ble_eq_true rfl⟩, (hts (.static yX10_withBit) wd_965), trivial⟩ ⟨fun a U g mk q => by obtain ⟨q0, q1, qP, qK, qD⟩ := q; exact ⟨q0, q1, qP, va_K.moved (u := U) (U := U.calling g mk a) (Vm.Alike.refl U.vm) qK, qD⟩, fun U hU hW => ⟨rfl, by rw [hU], by rw [hU]; exact hPc, va_K.moved hW.alike hK, hDc.weaken (fun _ _ _ _ => trivial)⟩⟩ rfl rfl hl.1 rfl (lv_room (Nat.le_of_ble_eq_true rfl)) dX5_readSingle_94 ⟨Nat.zero_le _, Nat.zero_le _⟩) hS (fun q _ h => hFc q h) hFc (fun r94 u t H1 locs ht hvm hwp hB hz1 hk1 hS => ?_)
          obtain ⟨hP1, -, hD1⟩ := hB
          rw [ht] at hP1
          obtain ⟨hP, hD⟩ := va_join (wr := [(q_draft, .inr (8, [.int t_draft_items, .int t_draft_capacity, .int t_draft_limit, .int t_draft_mustSet, .int t_draft_neverSet, .int t_draft_hand, .ref q_draft_weight, .ref q_draft_gain, .ref q_draft_joy, .ref q_draft_bars, .ref q_draft_needs])), (q_text, .inl (C 1, 600, .inl t_text)), (q, .inr (5, [.ref q_draft, .int u14_5, .int u14_6, .ref q_text, .int t_length, .int u1_1, .int u1_2, .int u1_3, .int u1_4]))]) (w1 := []) hP hD [] [0, 1, 2] rfl rfl (by decide) (by decide) hk1 hFc hP1 hD1
          generalize H1 = H at hP hS ⊢
          have hP : va_P D vwCl [(q_draft, .inr (8, [.int t_draft_items, .int t_draft_capacity, .int t_draft_limit, .int t_draft_mustSet, .int t_draft_neverSet, .int t_draft_hand, .ref q_draft_weight, .ref q_draft_gain, .ref q_draft_joy, .ref q_draft_bars, .ref q_draft_needs])), (q_text, .inl (C 1, 600, .inl t_text)), (q, .inr (5, [.ref q_draft, .int u14_5, .int u14_6, .ref q_text, .int t_length, .int u1_1, .int u1_2, .int u1_3, .int u1_4]))] H := hP
          have hD : va_D A [(q_draft, .inr (8, [.int t_draft_items, .int t_draft_capacity, .int t_draft_limit, .int t_draft_mustSet, .int t_draft_neverSet, .int t_draft_hand, .ref q_draft_weight, .ref q_draft_gain, .ref q_draft_joy, .ref q_draft_bars, .ref q_draft_needs])), (q_text, .inl (C 1, 600, .inl t_text)), (q, .inr (5, [.ref q_draft, .int u14_5, .int u14_6, .ref q_text, .int t_length, .int u1_1, .int u1_2, .int u1_3, .int u1_4]))] := hD
          refine va_put (D := D) (ci := 8) (v := .int r94) (ty := .int) (C := RX8) (T := TX8) (N := 11) hx hb hts iwX8 tyX8 tyX8_ok nmX8 hown hK hP hD hS 0 rfl rfl 4 (by decide) (hts (.fieldLink RX5 166 "ParetoDesk$Setup" "neverSet" "I") wd_102) (fun _ h9 => h9) rfl (by decide +kernel) rfl rfl (Nat.le_of_ble_eq_true rfl) dX5_readSingle_97 (fun H locs hP hD hS => ?_)
          have hP : va_P D vwCl [(q_draft, .inr (8, [.int t_draft_items, .int t_draft_capacity, .int t_draft_limit, .int t_draft_mustSet, .int r94, .int t_draft_hand, .ref q_draft_weight, .ref q_draft_gain, .ref q_draft_joy, .ref q_draft_bars, .ref q_draft_needs])), (q_text, .inl (C 1, 600, .inl t_text)), (q, .inr (5, [.ref q_draft, .int u14_5, .int u14_6, .ref q_text, .int t_length, .int u1_1, .int u1_2, .int u1_3, .int u1_4]))] H := hP
          have hD : va_D A [(q_draft, .inr (8, [.int t_draft_items, .int t_draft_capacity, .int t_draft_limit, .int t_draft_mustSet, .int r94, .int t_draft_hand, .ref q_draft_weight, .ref q_draft_gain, .ref q_draft_joy, .ref q_draft_bars, .ref q_draft_needs])), (q_text, .inl (C 1, 600, .inl t_text)), (q, .inr (5, [.ref q_draft, .int u14_5, .int u14_6, .ref q_text, .int t_length, .int u1_1, .int u1_2, .int u1_3, .int u1_4]))] := hD
          have hl9 := lv_sub (l' := [(0, .ref q)]) hl [1] rfl
          have hP9 := hP.sub (ws' := [(q, .inr (5, [.ref q_draft, .int u14_5, .int u14_6, .ref q_text, .int t_length, .int u1_1, .int u1_2, .int u1_3, .int u1_4])), (q_text, .inl (C 1, 600, .inl t_text)), (q_draft, .inr (8, [.int t_draft_items, .int t_draft_capacity, .int t_draft_limit, .int t_draft_mustSet, .int r94, .int t_draft_hand, .ref q_draft_weight, .ref q_draft_gain, .ref q_draft_joy, .ref q_draft_bars, .ref q_draft_needs]))]) [2, 1, 0] rfl
          have hD9 := hD.sub (ws' := [(q, .inr (5, [.ref q_draft, .int u14_5, .int u14_6, .ref q_text, .int t_length, .int u1_1, .int u1_2, .int u1_3, .int u1_4])), (q_text, .inl (C 1, 600, .inl t_text)), (q_draft, .inr (8, [.int t_draft_items, .int t_draft_capacity, .int t_draft_limit, .int t_draft_mustSet, .int r94, .int t_draft_hand, .ref q_draft_weight, .ref q_draft_gain, .ref q_draft_joy, .ref q_draft_bars, .ref q_draft_needs]))]) [2, 1, 0] (by decide) rfl
          exact HB100 u14_5 u14_6 u1_1 u1_2 u1_3 u1_4 t_draft_mustSet r94 H locs ls hl9 hP9 hD9 hS hwp
        · have hwp := hwp.2 c62
          refine lv_aload_n hx hb dX5_readSingle_65 rfl (lv_at hl 1 rfl) ?_
          refine va_get (D := D) (ci := 5) (v := .ref q_draft) (C := RX5) (T := TX5) (N := 9) hx hb hts iwX5 hown hK hP 2 rfl rfl 0 (by decide) (hts (.fieldLink RX5 12 "ParetoDesk$Parser" "draft" "LParetoDesk$Setup;") wd_147) (fun _ h9 => h9) rfl dX5_readSingle_66 ?_
          refine lv_iload_n hx hb dX5_readSingle_69 rfl (lv_at hl 0 rfl) ?_
          refine lv_aload_n hx hb dX5_readSingle_70 rfl (lv_at hl 1 rfl) ?_
          refine va_get (D := D) (ci := 5) (v := .int u1_4) (C := RX5) (T := TX5) (N := 9) hx hb hts iwX5 hown hK hP 2 rfl rfl 8 (by decide) (hts (.fieldLink RX5 60 "ParetoDesk$Parser" "value" "I") wd_158) (fun _ h9 => h9) rfl dX5_readSingle_71 ?_
          refine lv_iconst (v := 1) hx hb dX5_readSingle_74 (by decide) ?_
          have hPc := hP.sub (ws' := []) [] rfl
          have hDc := hD.sub (ws' := []) [] (by decide) rfl
          have hFc := va_free (wc := []) hD hS hA [] rfl
          refine va_calli (va_runSN (As := [.int t_draft_neverSet, .int u1_4, .int (1 : Int32)]) (rest := [.ref q_draft]) ⟨hx, hb, hml, hown, hts⟩ (met_X10_withBit l D C t_draft_neverSet u1_4 (1 : Int32) H.size _ hwp) ⟨va_cnB (own := RX5) (index := 159) (host := "ParetoDesk") 3 hts gc_X10_withBit rfl rfl rfl (hT.2.2.2.2.1 ("ParetoDesk$Parser", 159, yX10_withBit, "ParetoDesk") (by decide)) (hts (.initialized RX10) wd_35) (by decide +kernel) ⟨Nat.le_of_ble_eq_true rfl, Nat.le_of_ble_eq_true rfl⟩, (hts (.static yX10_withBit) wd_965), trivial⟩ ⟨fun a U g mk q => by obtain ⟨q0, q1, qP, qK, qD⟩ := q; exact ⟨q0, q1, qP, va_K.moved (u := U) (U := U.calling g mk a) (Vm.Alike.refl U.vm) qK, qD⟩, fun U hU hW => ⟨rfl, by rw [hU], by rw [hU]; exact hPc, va_K.moved hW.alike hK, hDc.weaken (fun _ _ _ _ => trivial)⟩⟩ rfl rfl hl.1 rfl (lv_room (Nat.le_of_ble_eq_true rfl)) dX5_readSingle_75 ⟨Nat.zero_le _, Nat.zero_le _⟩) hS (fun q _ h => hFc q h) hFc (fun r75 u t H1 locs ht hvm hwp hB hz1 hk1 hS => ?_)
          obtain ⟨hP1, -, hD1⟩ := hB
          rw [ht] at hP1
          obtain ⟨hP, hD⟩ := va_join (wr := [(q_draft, .inr (8, [.int t_draft_items, .int t_draft_capacity, .int t_draft_limit, .int t_draft_mustSet, .int t_draft_neverSet, .int t_draft_hand, .ref q_draft_weight, .ref q_draft_gain, .ref q_draft_joy, .ref q_draft_bars, .ref q_draft_needs])), (q_text, .inl (C 1, 600, .inl t_text)), (q, .inr (5, [.ref q_draft, .int u14_5, .int u14_6, .ref q_text, .int t_length, .int u1_1, .int u1_2, .int u1_3, .int u1_4]))]) (w1 := []) hP hD [] [0, 1, 2] rfl rfl (by decide) (by decide) hk1 hFc hP1 hD1
          generalize H1 = H at hP hS ⊢
          have hP : va_P D vwCl [(q_draft, .inr (8, [.int t_draft_items, .int t_draft_capacity, .int t_draft_limit, .int t_draft_mustSet, .int t_draft_neverSet, .int t_draft_hand, .ref q_draft_weight, .ref q_draft_gain, .ref q_draft_joy, .ref q_draft_bars, .ref q_draft_needs])), (q_text, .inl (C 1, 600, .inl t_text)), (q, .inr (5, [.ref q_draft, .int u14_5, .int u14_6, .ref q_text, .int t_length, .int u1_1, .int u1_2, .int u1_3, .int u1_4]))] H := hP
          have hD : va_D A [(q_draft, .inr (8, [.int t_draft_items, .int t_draft_capacity, .int t_draft_limit, .int t_draft_mustSet, .int t_draft_neverSet, .int t_draft_hand, .ref q_draft_weight, .ref q_draft_gain, .ref q_draft_joy, .ref q_draft_bars, .ref q_draft_needs])), (q_text, .inl (C 1, 600, .inl t_text)), (q, .inr (5, [.ref q_draft, .int u14_5, .int u14_6, .ref q_text, .int t_length, .int u1_1, .int u1_2, .int u1_3, .int u1_4]))] := hD
          refine va_put (D := D) (ci := 8) (v := .int r75) (ty := .int) (C := RX8) (T := TX8) (N := 11) hx hb hts iwX8 tyX8 tyX8_ok nmX8 hown hK hP hD hS 0 rfl rfl 3 (by decide) (hts (.fieldLink RX5 163 "ParetoDesk$Setup" "mustSet" "I") wd_98) (fun _ h9 => h9) rfl (by decide +kernel) rfl rfl (Nat.le_of_ble_eq_true rfl) dX5_readSingle_78 (fun H locs hP hD hS => ?_)
          have hP : va_P D vwCl [(q_draft, .inr (8, [.int t_draft_items, .int t_draft_capacity, .int t_draft_limit, .int r75, .int t_draft_neverSet, .int t_draft_hand, .ref q_draft_weight, .ref q_draft_gain, .ref q_draft_joy, .ref q_draft_bars, .ref q_draft_needs])), (q_text, .inl (C 1, 600, .inl t_text)), (q, .inr (5, [.ref q_draft, .int u14_5, .int u14_6, .ref q_text, .int t_length, .int u1_1, .int u1_2, .int u1_3, .int u1_4]))] H := hP
          have hD : va_D A [(q_draft, .inr (8, [.int t_draft_items, .int t_draft_capacity, .int t_draft_limit, .int r75, .int t_draft_neverSet, .int t_draft_hand, .ref q_draft_weight, .ref q_draft_gain, .ref q_draft_joy, .ref q_draft_bars, .ref q_draft_needs])), (q_text, .inl (C 1, 600, .inl t_text)), (q, .inr (5, [.ref q_draft, .int u14_5, .int u14_6, .ref q_text, .int t_length, .int u1_1, .int u1_2, .int u1_3, .int u1_4]))] := hD
          refine lv_goto (tgt := 100) hx hb dX5_readSingle_81 (by decide) ?_
          have hl9 := lv_sub (l' := [(0, .ref q)]) hl [1] rfl
          have hP9 := hP.sub (ws' := [(q, .inr (5, [.ref q_draft, .int u14_5, .int u14_6, .ref q_text, .int t_length, .int u1_1, .int u1_2, .int u1_3, .int u1_4])), (q_text, .inl (C 1, 600, .inl t_text)), (q_draft, .inr (8, [.int t_draft_items, .int t_draft_capacity, .int t_draft_limit, .int r75, .int t_draft_neverSet, .int t_draft_hand, .ref q_draft_weight, .ref q_draft_gain, .ref q_draft_joy, .ref q_draft_bars, .ref q_draft_needs]))]) [2, 1, 0] rfl
          have hD9 := hD.sub (ws' := [(q, .inr (5, [.ref q_draft, .int u14_5, .int u14_6, .ref q_text, .int t_length, .int u1_1, .int u1_2, .int u1_3, .int u1_4])), (q_text, .inl (C 1, 600, .inl t_text)), (q_draft, .inr (8, [.int t_draft_items, .int t_draft_capacity, .int t_draft_limit, .int r75, .int t_draft_neverSet, .int t_draft_hand, .ref q_draft_weight, .ref q_draft_gain, .ref q_draft_joy, .ref q_draft_bars, .ref q_draft_needs]))]) [2, 1, 0] (by decide) rfl
          exact HB100 u14_5 u14_6 u1_1 u1_2 u1_3 u1_4 r75 t_draft_neverSet H locs ls hl9 hP9 hD9 hS hwp
      · have hwp := hwp.2 c52
        refine lv_aload_n hx hb dX5_readSingle_55 rfl (lv_at hl 1 rfl) ?_
        refine lv_iconst (v := 3) hx hb dX5_readSingle_56 (by decide) ?_
        have hPc := hP.sub (ws' := [(q, .inr (5, [.ref q_draft, .int u14_5, .int u14_6, .ref q_text, .int t_length, .int u1_1, .int u1_2, .int u1_3, .int u1_4]))]) [2] rfl
        have hDc := hD.sub (ws' := [(q, .inr (5, [.ref q_draft, .int u14_5, .int u14_6, .ref q_text, .int t_length, .int u1_1, .int u1_2, .int u1_3, .int u1_4]))]) [2] (by decide) rfl
        have hFc := va_free (wc := [(q, .inr (5, [.ref q_draft, .int u14_5, .int u14_6, .ref q_text, .int t_length, .int u1_1, .int u1_2, .int u1_3, .int u1_4]))]) hD hS hA [2] rfl
        refine va_calli (va_runV (As := [.int (3 : Int32)]) (rest := []) ⟨hx, hb, hml, hown, hts⟩ (met_X5_fail l D C q q_draft q_text (3 : Int32) u14_5 u14_6 t_length u1_1 u1_2 u1_3 u1_4 H.size _ hwp) (cwV 1 hts gc_X5_90 rfl rfl rfl (by decide +kernel) ⟨Nat.le_of_ble_eq_true rfl, Nat.le_of_ble_eq_true rfl⟩) ⟨fun a U g mk q => by obtain ⟨q0, q1, qP, qK, qD⟩ := q; exact ⟨q0, q1, qP, va_K.moved (u := U) (U := U.calling g mk a) (Vm.Alike.refl U.vm) qK, qD⟩, va_recv hK hPc (ci := 5) (q0 := 0) rfl rfl, fun U hU hW => ⟨rfl, by rw [hU], by rw [hU]; exact hPc, va_K.moved hW.alike hK, hDc.weaken (fun _ _ _ _ => trivial)⟩⟩ rfl rfl hl.1 rfl (lv_room (Nat.le_of_ble_eq_true rfl)) dX5_readSingle_57 ⟨Nat.zero_le _, Nat.zero_le _⟩) hS (fun q _ h => hFc q h) hFc (fun r57 u t H1 locs ht hvm hwp hB hz1 hk1 hS => ?_)
        obtain ⟨u57_17, u57_18⟩ := u
        obtain ⟨hP1, -, hD1⟩ := hB
        rw [ht] at hP1
        obtain ⟨hP, hD⟩ := va_join (wr := [(q_draft, .inr (8, [.int t_draft_items, .int t_draft_capacity, .int t_draft_limit, .int t_draft_mustSet, .int t_draft_neverSet, .int t_draft_hand, .ref q_draft_weight, .ref q_draft_gain, .ref q_draft_joy, .ref q_draft_bars, .ref q_draft_needs])), (q_text, .inl (C 1, 600, .inl t_text))]) (w1 := [(q, .inr (5, [.ref q_draft, .int u57_17, .int u57_18, .ref q_text, .int t_length, .int u1_1, .int u1_2, .int u1_3, .int u1_4]))]) hP hD [2] [0, 1] rfl rfl (by decide) (by decide) hk1 hFc hP1 hD1
        generalize H1 = H at hP hS ⊢
        have hP : va_P D vwCl [(q_draft, .inr (8, [.int t_draft_items, .int t_draft_capacity, .int t_draft_limit, .int t_draft_mustSet, .int t_draft_neverSet, .int t_draft_hand, .ref q_draft_weight, .ref q_draft_gain, .ref q_draft_joy, .ref q_draft_bars, .ref q_draft_needs])), (q_text, .inl (C 1, 600, .inl t_text)), (q, .inr (5, [.ref q_draft, .int u57_17, .int u57_18, .ref q_text, .int t_length, .int u1_1, .int u1_2, .int u1_3, .int u1_4]))] H := hP
        have hD : va_D A [(q_draft, .inr (8, [.int t_draft_items, .int t_draft_capacity, .int t_draft_limit, .int t_draft_mustSet, .int t_draft_neverSet, .int t_draft_hand, .ref q_draft_weight, .ref q_draft_gain, .ref q_draft_joy, .ref q_draft_bars, .ref q_draft_needs])), (q_text, .inl (C 1, 600, .inl t_text)), (q, .inr (5, [.ref q_draft, .int u57_17, .int u57_18, .ref q_text, .int t_length, .int u1_1, .int u1_2, .int u1_3, .int u1_4]))] := hD
        have hP9 := hP.sub (ws' := [(q, .inr (5, [.ref q_draft, .int u57_17, .int u57_18, .ref q_text, .int t_length, .int u1_1, .int u1_2, .int u1_3, .int u1_4])), (q_text, .inl (C 1, 600, .inl t_text)), (q_draft, .inr (8, [.int t_draft_items, .int t_draft_capacity, .int t_draft_limit, .int t_draft_mustSet, .int t_draft_neverSet, .int t_draft_hand, .ref q_draft_weight, .ref q_draft_gain, .ref q_draft_joy, .ref q_draft_bars, .ref q_draft_needs]))]) [2, 1, 0] rfl
        have hD9 := hD.sub (ws' := [(q, .inr (5, [.ref q_draft, .int u57_17, .int u57_18, .ref q_text, .int t_length, .int u1_1, .int u1_2, .int u1_3, .int u1_4])), (q_text, .inl (C 1, 600, .inl t_text)), (q_draft, .inr (8, [.int t_draft_items, .int t_draft_capacity, .int t_draft_limit, .int t_draft_mustSet, .int t_draft_neverSet, .int t_draft_hand, .ref q_draft_weight, .ref q_draft_gain, .ref q_draft_joy, .ref q_draft_bars, .ref q_draft_needs]))]) [2, 1, 0] (by decide) rfl
        obtain ⟨hn9, hwp⟩ := hwp
        exact W.zret (v := r57) (ty := .boolean) hx hb hr hn9 (fun t ht hW => ⟨⟨r57, (u57_17, u57_18, u1_1, u1_2, u1_3, u1_4, t_draft_mustSet, t_draft_neverSet), rfl, hwp, by rw [ht]; exact hP9, va_K.moved hW.alike hK, hD9⟩, hS.F ht⟩) hS.2.2 dX5_readSingle_60
    · have hwp := hwp.2 c23
      refine lv_aload_n hx hb dX5_readSingle_26 rfl (lv_at hl 0 rfl) ?_
      refine va_get (D := D) (ci := 5) (v := .ref q_draft) (C := RX5) (T := TX5) (N := 9) hx hb hts iwX5 hown hK hP 2 rfl rfl 0 (by decide) (hts (.fieldLink RX5 12 "ParetoDesk$Parser" "draft" "LParetoDesk$Setup;") wd_147) (fun _ h9 => h9) rfl dX5_readSingle_27 ?_
      refine va_get (D := D) (ci := 8) (v := .int t_draft_mustSet) (C := RX8) (T := TX8) (N := 11) hx hb hts iwX8 hown hK hP 0 rfl rfl 3 (by decide) (hts (.fieldLink RX5 163 "ParetoDesk$Setup" "mustSet" "I") wd_98) (fun _ h9 => h9) rfl dX5_readSingle_30 ?_
      refine lv_goto (tgt := 43) hx hb dX5_readSingle_33 (by decide) ?_
      refine lv_istore_n (lv' := [(2, .int t_draft_mustSet), (0, .ref q), (1, .int p1)]) hx hb dX5_readSingle_43 rfl hl (by decide) rfl (fun ls hl => ?_)
      refine lv_iload_n hx hb dX5_readSingle_44 rfl (lv_at hl 0 rfl) ?_
      refine lv_aload_n hx hb dX5_readSingle_45 rfl (lv_at hl 1 rfl) ?_
      refine va_get (D := D) (ci := 5) (v := .int u1_4) (C := RX5) (T := TX5) (N := 9) hx hb hts iwX5 hown hK hP 2 rfl rfl 8 (by decide) (hts (.fieldLink RX5 60 "ParetoDesk$Parser" "value" "I") wd_158) (fun _ h9 => h9) rfl dX5_readSingle_46 ?_
      have hPc := hP.sub (ws' := []) [] rfl
      have hDc := hD.sub (ws' := []) [] (by decide) rfl
      have hFc := va_free (wc := []) hD hS hA [] rfl
      refine va_calli (va_runSN (As := [.int t_draft_mustSet, .int u1_4]) (rest := []) ⟨hx, hb, hml, hown, hts⟩ (met_X10_hasBit l D C t_draft_mustSet u1_4 H.size _ hwp) ⟨va_cnB (own := RX5) (index := 155) (host := "ParetoDesk") 2 hts gc_X10_hasBit rfl rfl rfl (hT.2.2.2.2.1 ("ParetoDesk$Parser", 155, yX10_hasBit, "ParetoDesk") (by decide)) (hts (.initialized RX10) wd_35) (by decide +kernel) ⟨Nat.le_of_ble_eq_true rfl, Nat.le_of_ble_eq_true rfl⟩, (hts (.static yX10_hasBit) wd_962), trivial⟩ ⟨fun a U g mk q => by obtain ⟨q0, q1, qP, qK, qD⟩ := q; exact ⟨q0, q1, qP, va_K.moved (u := U) (U := U.calling g mk a) (Vm.Alike.refl U.vm) qK, qD⟩, fun U hU hW => ⟨rfl, by rw [hU], by rw [hU]; exact hPc, va_K.moved hW.alike hK, hDc.weaken (fun _ _ _ _ => trivial)⟩⟩ rfl rfl hl.1 rfl (lv_room (Nat.le_of_ble_eq_true rfl)) dX5_readSingle_49 ⟨Nat.zero_le _, Nat.zero_le _⟩) hS (fun q _ h => hFc q h) hFc (fun r49 u t H1 locs ht hvm hwp hB hz1 hk1 hS => ?_)
      obtain ⟨hP1, -, hD1⟩ := hB
      rw [ht] at hP1
      obtain ⟨hP, hD⟩ := va_join (wr := [(q_draft, .inr (8, [.int t_draft_items, .int t_draft_capacity, .int t_draft_limit, .int t_draft_mustSet, .int t_draft_neverSet, .int t_draft_hand, .ref q_draft_weight, .ref q_draft_gain, .ref q_draft_joy, .ref q_draft_bars, .ref q_draft_needs])), (q_text, .inl (C 1, 600, .inl t_text)), (q, .inr (5, [.ref q_draft, .int u14_5, .int u14_6, .ref q_text, .int t_length, .int u1_1, .int u1_2, .int u1_3, .int u1_4]))]) (w1 := []) hP hD [] [0, 1, 2] rfl rfl (by decide) (by decide) hk1 hFc hP1 hD1
      generalize H1 = H at hP hS ⊢
      have hP : va_P D vwCl [(q_draft, .inr (8, [.int t_draft_items, .int t_draft_capacity, .int t_draft_limit, .int t_draft_mustSet, .int t_draft_neverSet, .int t_draft_hand, .ref q_draft_weight, .ref q_draft_gain, .ref q_draft_joy, .ref q_draft_bars, .ref q_draft_needs])), (q_text, .inl (C 1, 600, .inl t_text)), (q, .inr (5, [.ref q_draft, .int u14_5, .int u14_6, .ref q_text, .int t_length, .int u1_1, .int u1_2, .int u1_3, .int u1_4]))] H := hP
      have hD : va_D A [(q_draft, .inr (8, [.int t_draft_items, .int t_draft_capacity, .int t_draft_limit, .int t_draft_mustSet, .int t_draft_neverSet, .int t_draft_hand, .ref q_draft_weight, .ref q_draft_gain, .ref q_draft_joy, .ref q_draft_bars, .ref q_draft_needs])), (q_text, .inl (C 1, 600, .inl t_text)), (q, .inr (5, [.ref q_draft, .int u14_5, .int u14_6, .ref q_text, .int t_length, .int u1_1, .int u1_2, .int u1_3, .int u1_4]))] := hD
      refine lv_if_eq (tgt := 61) hx hb dX5_readSingle_52 (by decide) (fun c52 => ?_) (fun c52 => ?_)
      · have hwp := hwp.1 c52
        refine lv_iload_n hx hb dX5_readSingle_61 rfl (lv_at hl 2 rfl) ?_
        refine lv_if_eq (tgt := 84) hx hb dX5_readSingle_62 (by decide) (fun c62 => ?_) (fun c62 => ?_)
        · have hwp := hwp.1 c62
          refine lv_aload_n hx hb dX5_readSingle_84 rfl (lv_at hl 1 rfl) ?_
          refine va_get (D := D) (ci := 5) (v := .ref q_draft) (C := RX5) (T := TX5) (N := 9) hx hb hts iwX5 hown hK hP 2 rfl rfl 0 (by decide) (hts (.fieldLink RX5 12 "ParetoDesk$Parser" "draft" "LParetoDesk$Setup;") wd_147) (fun _ h9 => h9) rfl dX5_readSingle_85 ?_
          refine lv_iload_n hx hb dX5_readSingle_88 rfl (lv_at hl 0 rfl) ?_
          refine lv_aload_n hx hb dX5_readSingle_89 rfl (lv_at hl 1 rfl) ?_
          refine va_get (D := D) (ci := 5) (v := .int u1_4) (C := RX5) (T := TX5) (N := 9) hx hb hts iwX5 hown hK hP 2 rfl rfl 8 (by decide) (hts (.fieldLink RX5 60 "ParetoDesk$Parser" "value" "I") wd_158) (fun _ h9 => h9) rfl dX5_readSingle_90 ?_
          refine lv_iconst (v := 1) hx hb dX5_readSingle_93 (by decide) ?_
          have hPc := hP.sub (ws' := []) [] rfl
          have hDc := hD.sub (ws' := []) [] (by decide) rfl
          have hFc := va_free (wc := []) hD hS hA [] rfl
          refine va_calli (va_runSN (As := [.int t_draft_mustSet, .int u1_4, .int (1 : Int32)]) (rest := [.ref q_draft]) ⟨hx, hb, hml, hown, hts⟩ (met_X10_withBit l D C t_draft_mustSet u1_4 (1 : Int32) H.size _ hwp) ⟨va_cnB (own := RX5) (index := 159) (host := "ParetoDesk") 3 hts gc_X10_withBit rfl rfl rfl (hT.2.2.2.2.1 ("ParetoDesk$Parser", 159, yX10_withBit, "ParetoDesk") (by decide)) (hts (.initialized RX10) wd_35) (by decide +kernel) ⟨Nat.le_of_ble_eq_true rfl, Nat.le_of_ble_eq_true rfl⟩, (hts (.static yX10_withBit) wd_965), trivial⟩ ⟨fun a U g mk q => by obtain ⟨q0, q1, qP, qK, qD⟩ := q; exact ⟨q0, q1, qP, va_K.moved (u := U) (U := U.calling g mk a) (Vm.Alike.refl U.vm) qK, qD⟩, fun U hU hW => ⟨rfl, by rw [hU], by rw [hU]; exact hPc, va_K.moved hW.alike hK, hDc.weaken (fun _ _ _ _ => trivial)⟩⟩ rfl rfl hl.1 rfl (lv_room (Nat.le_of_ble_eq_true rfl)) dX5_readSingle_94 ⟨Nat.zero_le _, Nat.zero_le _⟩) hS (fun q _ h => hFc q h) hFc (fun r94 u t H1 locs ht hvm hwp hB hz1 hk1 hS => ?_)
          obtain ⟨hP1, -, hD1⟩ := hB
          rw [ht] at hP1
          obtain ⟨hP, hD⟩ := va_join (wr := [(q_draft, .inr (8, [.int t_draft_items, .int t_draft_capacity, .int t_draft_limit, .int t_draft_mustSet, .int t_draft_neverSet, .int t_draft_hand, .ref q_draft_weight, .ref q_draft_gain, .ref q_draft_joy, .ref q_draft_bars, .ref q_draft_needs])), (q_text, .inl (C 1, 600, .inl t_text)), (q, .inr (5, [.ref q_draft, .int u14_5, .int u14_6, .ref q_text, .int t_length, .int u1_1, .int u1_2, .int u1_3, .int u1_4]))]) (w1 := []) hP hD [] [0, 1, 2] rfl rfl (by decide) (by decide) hk1 hFc hP1 hD1
          generalize H1 = H at hP hS ⊢
          have hP : va_P D vwCl [(q_draft, .inr (8, [.int t_draft_items, .int t_draft_capacity, .int t_draft_limit, .int t_draft_mustSet, .int t_draft_neverSet, .int t_draft_hand, .ref q_draft_weight, .ref q_draft_gain, .ref q_draft_joy, .ref q_draft_bars, .ref q_draft_needs])), (q_text, .inl (C 1, 600, .inl t_text)), (q, .inr (5, [.ref q_draft, .int u14_5, .int u14_6, .ref q_text, .int t_length, .int u1_1, .int u1_2, .int u1_3, .int u1_4]))] H := hP
          have hD : va_D A [(q_draft, .inr (8, [.int t_draft_items, .int t_draft_capacity, .int t_draft_limit, .int t_draft_mustSet, .int t_draft_neverSet, .int t_draft_hand, .ref q_draft_weight, .ref q_draft_gain, .ref q_draft_joy, .ref q_draft_bars, .ref q_draft_needs])), (q_text, .inl (C 1, 600, .inl t_text)), (q, .inr (5, [.ref q_draft, .int u14_5, .int u14_6, .ref q_text, .int t_length, .int u1_1, .int u1_2, .int u1_3, .int u1_4]))] := hD
          refine va_put (D := D) (ci := 8) (v := .int r94) (ty := .int) (C := RX8) (T := TX8) (N := 11) hx hb hts iwX8 tyX8 tyX8_ok nmX8 hown hK hP hD hS 0 rfl rfl 4 (by decide) (hts (.fieldLink RX5 166 "ParetoDesk$Setup" "neverSet" "I") wd_102) (fun _ h9 => h9) rfl (by decide +kernel) rfl rfl (Nat.le_of_ble_eq_true rfl) dX5_readSingle_97 (fun H locs hP hD hS => ?_)
          have hP : va_P D vwCl [(q_draft, .inr (8, [.int t_draft_items, .int t_draft_capacity, .int t_draft_limit, .int t_draft_mustSet, .int r94, .int t_draft_hand, .ref q_draft_weight, .ref q_draft_gain, .ref q_draft_joy, .ref q_draft_bars, .ref q_draft_needs])), (q_text, .inl (C 1, 600, .inl t_text)), (q, .inr (5, [.ref q_draft, .int u14_5, .int u14_6, .ref q_text, .int t_length, .int u1_1, .int u1_2, .int u1_3, .int u1_4]))] H := hP
          have hD : va_D A [(q_draft, .inr (8, [.int t_draft_items, .int t_draft_capacity, .int t_draft_limit, .int t_draft_mustSet, .int r94, .int t_draft_hand, .ref q_draft_weight, .ref q_draft_gain, .ref q_draft_joy, .ref q_draft_bars, .ref q_draft_needs])), (q_text, .inl (C 1, 600, .inl t_text)), (q, .inr (5, [.ref q_draft, .int u14_5, .int u14_6, .ref q_text, .int t_length, .int u1_1, .int u1_2, .int u1_3, .int u1_4]))] := hD
          have hl9 := lv_sub (l' := [(0, .ref q)]) hl [1] rfl
          have hP9 := hP.sub (ws' := [(q, .inr (5, [.ref q_draft, .int u14_5, .int u14_6, .ref q_text, .int t_length, .int u1_1, .int u1_2, .int u1_3, .int u1_4])), (q_text, .inl (C 1, 600, .inl t_text)), (q_draft, .inr (8, [.int t_draft_items, .int t_draft_capacity, .int t_draft_limit, .int t_draft_mustSet, .int r94, .int t_draft_hand, .ref q_draft_weight, .ref q_draft_gain, .ref q_draft_joy, .ref q_draft_bars, .ref q_draft_needs]))]) [2, 1, 0] rfl
          have hD9 := hD.sub (ws' := [(q, .inr (5, [.ref q_draft, .int u14_5, .int u14_6, .ref q_text, .int t_length, .int u1_1, .int u1_2, .int u1_3, .int u1_4])), (q_text, .inl (C 1, 600, .inl t_text)), (q_draft, .inr (8, [.int t_draft_items, .int t_draft_capacity, .int t_draft_limit, .int t_draft_mustSet, .int r94, .int t_draft_hand, .ref q_draft_weight, .ref q_draft_gain, .ref q_draft_joy, .ref q_draft_bars, .ref q_draft_needs]))]) [2, 1, 0] (by decide) rfl
          exact HB100 u14_5 u14_6 u1_1 u1_2 u1_3 u1_4 t_draft_mustSet r94 H locs ls hl9 hP9 hD9 hS hwp
        · have hwp := hwp.2 c62
          refine lv_aload_n hx hb dX5_readSingle_65 rfl (lv_at hl 1 rfl) ?_
          refine va_get (D := D) (ci := 5) (v := .ref q_draft) (C := RX5) (T := TX5) (N := 9) hx hb hts iwX5 hown hK hP 2 rfl rfl 0 (by decide) (hts (.fieldLink RX5 12 "ParetoDesk$Parser" "draft" "LParetoDesk$Setup;") wd_147) (fun _ h9 => h9) rfl dX5_readSingle_66 ?_
          refine lv_iload_n hx hb dX5_readSingle_69 rfl (lv_at hl 0 rfl) ?_
          refine lv_aload_n hx hb dX5_readSingle_70 rfl (lv_at hl 1 rfl) ?_
          refine va_get (D := D) (ci := 5) (v := .int u1_4) (C := RX5) (T := TX5) (N := 9) hx hb hts iwX5 hown hK hP 2 rfl rfl 8 (by decide) (hts (.fieldLink RX5 60 "ParetoDesk$Parser" "value" "I") wd_158) (fun _ h9 => h9) rfl dX5_readSingle_71 ?_
          refine lv_iconst (v := 1) hx hb dX5_readSingle_74 (by decide) ?_
          have hPc := hP.sub (ws' := []) [] rfl
          have hDc := hD.sub (ws' := []) [] (by decide) rfl
          have hFc := va_free (wc := []) hD hS hA [] rfl
          refine va_calli (va_runSN (As := [.int t_draft_mustSet, .int u1_4, .int (1 : Int32)]) (rest := [.ref q_draft]) ⟨hx, hb, hml, hown, hts⟩ (met_X10_withBit l D C t_draft_mustSet u1_4 (1 : Int32) H.size _ hwp) ⟨va_cnB (own := RX5) (index := 159) (host := "ParetoDesk") 3 hts gc_X10_withBit rfl rfl rfl (hT.2.2.2.2.1 ("ParetoDesk$Parser", 159, yX10_withBit, "ParetoDesk") (by decide)) (hts (.initialized RX10) wd_35) (by decide +kernel) ⟨Nat.le_of_ble_eq_true rfl, Nat.le_of_ble_eq_true rfl⟩, (hts (.static yX10_withBit) wd_965), trivial⟩ ⟨fun a U g mk q => by obtain ⟨q0, q1, qP, qK, qD⟩ := q; exact ⟨q0, q1, qP, va_K.moved (u := U) (U := U.calling g mk a) (Vm.Alike.refl U.vm) qK, qD⟩, fun U hU hW => ⟨rfl, by rw [hU], by rw [hU]; exact hPc, va_K.moved hW.alike hK, hDc.weaken (fun _ _ _ _ => trivial)⟩⟩ rfl rfl hl.1 rfl (lv_room (Nat.le_of_ble_eq_true rfl)) dX5_readSingle_75 ⟨Nat.zero_le _, Nat.zero_le _⟩) hS (fun q _ h => hFc q h) hFc (fun r75 u t H1 locs ht hvm hwp hB hz1 hk1 hS => ?_)
          obtain ⟨hP1, -, hD1⟩ := hB
          rw [ht] at hP1
          obtain ⟨hP, hD⟩ := va_join (wr := [(q_draft, .inr (8, [.int t_draft_items, .int t_draft_capacity, .int t_draft_limit, .int t_draft_mustSet, .int t_draft_neverSet, .int t_draft_hand, .ref q_draft_weight, .ref q_draft_gain, .ref q_draft_joy, .ref q_draft_bars, .ref q_draft_needs])), (q_text, .inl (C 1, 600, .inl t_text)), (q, .inr (5, [.ref q_draft, .int u14_5, .int u14_6, .ref q_text, .int t_length, .int u1_1, .int u1_2, .int u1_3, .int u1_4]))]) (w1 := []) hP hD [] [0, 1, 2] rfl rfl (by decide) (by decide) hk1 hFc hP1 hD1
          generalize H1 = H at hP hS ⊢
          have hP : va_P D vwCl [(q_draft, .inr (8, [.int t_draft_items, .int t_draft_capacity, .int t_draft_limit, .int t_draft_mustSet, .int t_draft_neverSet, .int t_draft_hand, .ref q_draft_weight, .ref q_draft_gain, .ref q_draft_joy, .ref q_draft_bars, .ref q_draft_needs])), (q_text, .inl (C 1, 600, .inl t_text)), (q, .inr (5, [.ref q_draft, .int u14_5, .int u14_6, .ref q_text, .int t_length, .int u1_1, .int u1_2, .int u1_3, .int u1_4]))] H := hP
          have hD : va_D A [(q_draft, .inr (8, [.int t_draft_items, .int t_draft_capacity, .int t_draft_limit, .int t_draft_mustSet, .int t_draft_neverSet, .int t_draft_hand, .ref q_draft_weight, .ref q_draft_gain, .ref q_draft_joy, .ref q_draft_bars, .ref q_draft_needs])), (q_text, .inl (C 1, 600, .inl t_text)), (q, .inr (5, [.ref q_draft, .int u14_5, .int u14_6, .ref q_text, .int t_length, .int u1_1, .int u1_2, .int u1_3, .int u1_4]))] := hD
          refine va_put (D := D) (ci := 8) (v := .int r75) (ty := .int) (C := RX8) (T := TX8) (N := 11) hx hb hts iwX8 tyX8 tyX8_ok nmX8 hown hK hP hD hS 0 rfl rfl 3 (by decide) (hts (.fieldLink RX5 163 "ParetoDesk$Setup" "mustSet" "I") wd_98) (fun _ h9 => h9) rfl (by decide +kernel) rfl rfl (Nat.le_of_ble_eq_true rfl) dX5_readSingle_78 (fun H locs hP hD hS => ?_)
          have hP : va_P D vwCl [(q_draft, .inr (8, [.int t_draft_items, .int t_draft_capacity, .int t_draft_limit, .int r75, .int t_draft_neverSet, .int t_draft_hand, .ref q_draft_weight, .ref q_draft_gain, .ref q_draft_joy, .ref q_draft_bars, .ref q_draft_needs])), (q_text, .inl (C 1, 600, .inl t_text)), (q, .inr (5, [.ref q_draft, .int u14_5, .int u14_6, .ref q_text, .int t_length, .int u1_1, .int u1_2, .int u1_3, .int u1_4]))] H := hP
          have hD : va_D A [(q_draft, .inr (8, [.int t_draft_items, .int t_draft_capacity, .int t_draft_limit, .int r75, .int t_draft_neverSet, .int t_draft_hand, .ref q_draft_weight, .ref q_draft_gain, .ref q_draft_joy, .ref q_draft_bars, .ref q_draft_needs])), (q_text, .inl (C 1, 600, .inl t_text)), (q, .inr (5, [.ref q_draft, .int u14_5, .int u14_6, .ref q_text, .int t_length, .int u1_1, .int u1_2, .int u1_3, .int u1_4]))] := hD
          refine lv_goto (tgt := 100) hx hb dX5_readSingle_81 (by decide) ?_
          have hl9 := lv_sub (l' := [(0, .ref q)]) hl [1] rfl
          have hP9 := hP.sub (ws' := [(q, .inr (5, [.ref q_draft, .int u14_5, .int u14_6, .ref q_text, .int t_length, .int u1_1, .int u1_2, .int u1_3, .int u1_4])), (q_text, .inl (C 1, 600, .inl t_text)), (q_draft, .inr (8, [.int t_draft_items, .int t_draft_capacity, .int t_draft_limit, .int r75, .int t_draft_neverSet, .int t_draft_hand, .ref q_draft_weight, .ref q_draft_gain, .ref q_draft_joy, .ref q_draft_bars, .ref q_draft_needs]))]) [2, 1, 0] rfl
          have hD9 := hD.sub (ws' := [(q, .inr (5, [.ref q_draft, .int u14_5, .int u14_6, .ref q_text, .int t_length, .int u1_1, .int u1_2, .int u1_3, .int u1_4])), (q_text, .inl (C 1, 600, .inl t_text)), (q_draft, .inr (8, [.int t_draft_items, .int t_draft_capacity, .int t_draft_limit, .int r75, .int t_draft_neverSet, .int t_draft_hand, .ref q_draft_weight, .ref q_draft_gain, .ref q_draft_joy, .ref q_draft_bars, .ref q_draft_needs]))]) [2, 1, 0] (by decide) rfl
          exact HB100 u14_5 u14_6 u1_1 u1_2 u1_3 u1_4 r75 t_draft_neverSet H locs ls hl9 hP9 hD9 hS hwp
      · have hwp := hwp.2 c52
        refine lv_aload_n hx hb dX5_readSingle_55 rfl (lv_at hl 1 rfl) ?_
        refine lv_iconst (v := 3) hx hb dX5_readSingle_56 (by decide) ?_
        have hPc := hP.sub (ws' := [(q, .inr (5, [.ref q_draft, .int u14_5, .int u14_6, .ref q_text, .int t_length, .int u1_1, .int u1_2, .int u1_3, .int u1_4]))]) [2] rfl
        have hDc := hD.sub (ws' := [(q, .inr (5, [.ref q_draft, .int u14_5, .int u14_6, .ref q_text, .int t_length, .int u1_1, .int u1_2, .int u1_3, .int u1_4]))]) [2] (by decide) rfl
        have hFc := va_free (wc := [(q, .inr (5, [.ref q_draft, .int u14_5, .int u14_6, .ref q_text, .int t_length, .int u1_1, .int u1_2, .int u1_3, .int u1_4]))]) hD hS hA [2] rfl
        refine va_calli (va_runV (As := [.int (3 : Int32)]) (rest := []) ⟨hx, hb, hml, hown, hts⟩ (met_X5_fail l D C q q_draft q_text (3 : Int32) u14_5 u14_6 t_length u1_1 u1_2 u1_3 u1_4 H.size _ hwp) (cwV 1 hts gc_X5_90 rfl rfl rfl (by decide +kernel) ⟨Nat.le_of_ble_eq_true rfl, Nat.le_of_ble_eq_true rfl⟩) ⟨fun a U g mk q => by obtain ⟨q0, q1, qP, qK, qD⟩ := q; exact ⟨q0, q1, qP, va_K.moved (u := U) (U := U.calling g mk a) (Vm.Alike.refl U.vm) qK, qD⟩, va_recv hK hPc (ci := 5) (q0 := 0) rfl rfl, fun U hU hW => ⟨rfl, by rw [hU], by rw [hU]; exact hPc, va_K.moved hW.alike hK, hDc.weaken (fun _ _ _ _ => trivial)⟩⟩ rfl rfl hl.1 rfl (lv_room (Nat.le_of_ble_eq_true rfl)) dX5_readSingle_57 ⟨Nat.zero_le _, Nat.zero_le _⟩) hS (fun q _ h => hFc q h) hFc (fun r57 u t H1 locs ht hvm hwp hB hz1 hk1 hS => ?_)
        obtain ⟨u57_19, u57_20⟩ := u
        obtain ⟨hP1, -, hD1⟩ := hB
        rw [ht] at hP1
        obtain ⟨hP, hD⟩ := va_join (wr := [(q_draft, .inr (8, [.int t_draft_items, .int t_draft_capacity, .int t_draft_limit, .int t_draft_mustSet, .int t_draft_neverSet, .int t_draft_hand, .ref q_draft_weight, .ref q_draft_gain, .ref q_draft_joy, .ref q_draft_bars, .ref q_draft_needs])), (q_text, .inl (C 1, 600, .inl t_text))]) (w1 := [(q, .inr (5, [.ref q_draft, .int u57_19, .int u57_20, .ref q_text, .int t_length, .int u1_1, .int u1_2, .int u1_3, .int u1_4]))]) hP hD [2] [0, 1] rfl rfl (by decide) (by decide) hk1 hFc hP1 hD1
        generalize H1 = H at hP hS ⊢
        have hP : va_P D vwCl [(q_draft, .inr (8, [.int t_draft_items, .int t_draft_capacity, .int t_draft_limit, .int t_draft_mustSet, .int t_draft_neverSet, .int t_draft_hand, .ref q_draft_weight, .ref q_draft_gain, .ref q_draft_joy, .ref q_draft_bars, .ref q_draft_needs])), (q_text, .inl (C 1, 600, .inl t_text)), (q, .inr (5, [.ref q_draft, .int u57_19, .int u57_20, .ref q_text, .int t_length, .int u1_1, .int u1_2, .int u1_3, .int u1_4]))] H := hP
        have hD : va_D A [(q_draft, .inr (8, [.int t_draft_items, .int t_draft_capacity, .int t_draft_limit, .int t_draft_mustSet, .int t_draft_neverSet, .int t_draft_hand, .ref q_draft_weight, .ref q_draft_gain, .ref q_draft_joy, .ref q_draft_bars, .ref q_draft_needs])), (q_text, .inl (C 1, 600, .inl t_text)), (q, .inr (5, [.ref q_draft, .int u57_19, .int u57_20, .ref q_text, .int t_length, .int u1_1, .int u1_2, .int u1_3, .int u1_4]))] := hD
        have hP9 := hP.sub (ws' := [(q, .inr (5, [.ref q_draft, .int u57_19, .int u57_20, .ref q_text, .int t_length, .int u1_1, .int u1_2, .int u1_3, .int u1_4])), (q_text, .inl (C 1, 600, .inl t_text)), (q_draft, .inr (8, [.int t_draft_items, .int t_draft_capacity, .int t_draft_limit, .int t_draft_mustSet, .int t_draft_neverSet, .int t_draft_hand, .ref q_draft_weight, .ref q_draft_gain, .ref q_draft_joy, .ref q_draft_bars, .ref q_draft_needs]))]) [2, 1, 0] rfl
        have hD9 := hD.sub (ws' := [(q, .inr (5, [.ref q_draft, .int u57_19, .int u57_20, .ref q_text, .int t_length, .int u1_1, .int u1_2, .int u1_3, .int u1_4])), (q_text, .inl (C 1, 600, .inl t_text)), (q_draft, .inr (8, [.int t_draft_items, .int t_draft_capacity, .int t_draft_limit, .int t_draft_mustSet, .int t_draft_neverSet, .int t_draft_hand, .ref q_draft_weight, .ref q_draft_gain, .ref q_draft_joy, .ref q_draft_bars, .ref q_draft_needs]))]) [2, 1, 0] (by decide) rfl
        obtain ⟨hn9, hwp⟩ := hwp
        exact W.zret (v := r57) (ty := .boolean) hx hb hr hn9 (fun t ht hW => ⟨⟨r57, (u57_19, u57_20, u1_1, u1_2, u1_3, u1_4, t_draft_mustSet, t_draft_neverSet), rfl, hwp, by rw [ht]; exact hP9, va_K.moved hW.alike hK, hD9⟩, hS.F ht⟩) hS.2.2 dX5_readSingle_60
  · have hwp := hwp.2 c17
    refine lv_iconst (v := 0) hx hb dX5_readSingle_20 (by decide) ?_
    have hP9 := hP.sub (ws' := [(q, .inr (5, [.ref q_draft, .int u14_5, .int u14_6, .ref q_text, .int t_length, .int u1_1, .int u1_2, .int u1_3, .int u1_4])), (q_text, .inl (C 1, 600, .inl t_text)), (q_draft, .inr (8, [.int t_draft_items, .int t_draft_capacity, .int t_draft_limit, .int t_draft_mustSet, .int t_draft_neverSet, .int t_draft_hand, .ref q_draft_weight, .ref q_draft_gain, .ref q_draft_joy, .ref q_draft_bars, .ref q_draft_needs]))]) [2, 1, 0] rfl
    have hD9 := hD.sub (ws' := [(q, .inr (5, [.ref q_draft, .int u14_5, .int u14_6, .ref q_text, .int t_length, .int u1_1, .int u1_2, .int u1_3, .int u1_4])), (q_text, .inl (C 1, 600, .inl t_text)), (q_draft, .inr (8, [.int t_draft_items, .int t_draft_capacity, .int t_draft_limit, .int t_draft_mustSet, .int t_draft_neverSet, .int t_draft_hand, .ref q_draft_weight, .ref q_draft_gain, .ref q_draft_joy, .ref q_draft_bars, .ref q_draft_needs]))]) [2, 1, 0] (by decide) rfl
    exact W.zret (v := (0 : Int32)) (ty := .boolean) hx hb hr rfl (fun t ht hW => ⟨⟨(0 : Int32), (u14_5, u14_6, u1_1, u1_2, u1_3, u1_4, t_draft_mustSet, t_draft_neverSet), rfl, hwp, by rw [ht]; exact hP9, va_K.moved hW.alike hK, hD9⟩, hS.F ht⟩) hS.2.2 dX5_readSingle_21
abbrev ws_X8_hasItem : List Cond := .code yX8_hasItem cX8_hasItem 2 (some .boolean) :: WALL
abbrev rm_X8_hasItem : Room := { frames := 0, cells := 0, slots := 0, locals := 0 }
abbrev w_X8_hasItem (C : Nat → ClassId) (q : Nat) (q_weight : Nat) (q_gain : Nat) (q_joy : Nat) (q_bars : Nat) (q_needs : Nat) (t_items : Int32) (t_capacity : Int32) (t_limit : Int32) (t_mustSet : Int32) (t_neverSet : Int32) (t_hand : Int32) : va_W := [(q, .inr (8, [.int t_items, .int t_capacity, .int t_limit, .int t_mustSet, .int t_neverSet, .int t_hand, .ref q_weight, .ref q_gain, .ref q_joy, .ref q_bars, .ref q_needs]))]
abbrev q_X8_hasItem (D : va_G) (C : Nat → ClassId) (q : Nat) (q_weight : Nat) (q_gain : Nat) (q_joy : Nat) (q_bars : Nat) (q_needs : Nat) (t_items : Int32) (t_capacity : Int32) (t_limit : Int32) (t_mustSet : Int32) (t_neverSet : Int32) (t_hand : Int32) (Q : Int32 → Prop) (A : Nat → Prop) : Array Value → State → Outcome → State → Prop := va_Qi (fun (r : Int32) (u : Unit) => Q r) (fun (u : Unit) (t : State) => va_P D vwCl (w_X8_hasItem C q q_weight q_gain q_joy q_bars q_needs t_items t_capacity t_limit t_mustSet t_neverSet t_hand) t.heap ∧ va_K D vwCl (tyL C) t ∧ va_D A (w_X8_hasItem C q q_weight q_gain q_joy q_bars q_needs t_items t_capacity t_limit t_mustSet t_neverSet t_hand)) A
set_option maxHeartbeats 4000000 in
set_option maxRecDepth 100000 in
theorem met_X8_hasItem (l : Launch) (D : va_G) (C : Nat → ClassId) (q : Nat) (q_weight : Nat) (q_gain : Nat) (q_joy : Nat) (q_bars : Nat) (q_needs : Nat) (p1 : Int32) (t_items : Int32) (t_capacity : Int32) (t_limit : Int32) (t_mustSet : Int32) (t_neverSet : Int32) (t_hand : Int32) (sz : Nat) (Q : Int32 → Prop) (hwp : wp_X8_hasItem p1 t_items Q) : Met l yX8_hasItem ws_X8_hasItem rm_X8_hasItem (va_Pc [.ref q, .int p1] (fun U => U.heap.size = sz ∧ va_P D vwCl (w_X8_hasItem C q q_weight q_gain q_joy q_bars q_needs t_items t_capacity t_limit t_mustSet t_neverSet t_hand) U.heap ∧ va_K D vwCl (tyL C) U ∧ va_D (fun _ => True) (w_X8_hasItem C q q_weight q_gain q_joy q_bars q_needs t_items t_capacity t_limit t_mustSet t_neverSet t_hand))) (q_X8_hasItem D C q q_weight q_gain q_joy q_bars q_needs t_items t_capacity t_limit t_mustSet t_neverSet t_hand Q (va_A (w_X8_hasItem C q q_weight q_gain q_joy q_bars q_needs t_items t_capacity t_limit t_mustSet t_neverSet t_hand) sz)) 0 0 (va_A (w_X8_hasItem C q q_weight q_gain q_joy q_bars q_needs t_items t_capacity t_limit t_mustSet t_neverSet t_hand) sz) := by
  refine Met.ofW (cc := cX8_hasItem) (maxL := 2) (ret := (some .boolean)) (by decide) rfl ?_
  intro p e s m args below meth c s₁ B hml hv
  obtain ⟨rfl, hsz, hP, hK, hD0⟩ := hv
  have hx := B.exec
  have hb := B.bytes
  have hr := B.returns
  have hts : ∀ w ∈ WALL, w.before _ s = true := fun w h => atoms_spec (ws := ws_X8_hasItem) B.pre w (List.mem_cons_of_mem _ h)
  have hown : s.vm.findClass RX8 = some m.cls := findClass_of_methodNamed B.named
  have hlocks := B.notSynchronized
  subst hsz
  have hD := hD0.self (sz := s.heap.size)
  generalize hAe : va_A (w_X8_hasItem C q q_weight q_gain q_joy q_bars q_needs t_items t_capacity t_limit t_mustSet t_neverSet t_hand) s.heap.size = A at hD ⊢
  have hA : ∀ q : Nat, s.heap.size ≤ q → A q := fun q h => by rw [← hAe]; exact Or.inr h
  have hS : va_S A s.heap s.heap [] := va_S.rf
  have hl := lv_entry ([.ref q, .int p1]) (n := 2) (Nat.le_of_ble_eq_true rfl)
  rw [lg_entry_eq]
  generalize (lg_sl ([.ref q, .int p1]) ++ List.replicate (2 - (lg_sl ([.ref q, .int p1])).length) Slot.unset).toArray = ls at hl ⊢
  have hl : lv_has ls 2 [(0, .ref q), (1, .int p1)] := hl
  unfold wp_X8_hasItem at hwp
  obtain ⟨H, hH⟩ : ∃ H, H = s.heap := ⟨_, rfl⟩
  obtain ⟨locs, hlo⟩ : ∃ z : List Loc, z = [] := ⟨_, rfl⟩
  have hP : va_P D vwCl [(q, .inr (8, [.int t_items, .int t_capacity, .int t_limit, .int t_mustSet, .int t_neverSet, .int t_hand, .ref q_weight, .ref q_gain, .ref q_joy, .ref q_bars, .ref q_needs]))] H := by rw [hH]; exact hP
  have hD : va_D A [(q, .inr (8, [.int t_items, .int t_capacity, .int t_limit, .int t_mustSet, .int t_neverSet, .int t_hand, .ref q_weight, .ref q_gain, .ref q_joy, .ref q_bars, .ref q_needs]))] := hD
  have hS : va_S A s.heap H locs := by rw [hH, hlo]; exact hS
  suffices K : W p l e (headSpec ws_X8_hasItem rm_X8_hasItem).room s m ([.ref q, .int p1] : List Value).toArray below meth c H locs 0 0 (MQ below (q_X8_hasItem D C q q_weight q_gain q_joy q_bars q_needs t_items t_capacity t_limit t_mustSet t_neverSet t_hand Q A) ([.ref q, .int p1] : List Value).toArray s 0 0 A) (F0 m 0 ls []) from by rw [hH, hlo] at K; exact K
  refine lv_iload_n hx hb dX8_hasItem_0 rfl (lv_at hl 1 rfl) ?_
  refine lv_if_lt (tgt := 16) hx hb dX8_hasItem_1 (by decide) (fun c1 => ?_) (fun c1 => ?_)
  · have hwp := hwp.1 c1
    refine lv_iconst (v := 0) hx hb dX8_hasItem_16 (by decide) ?_
    have hP9 := hP.sub (ws' := [(q, .inr (8, [.int t_items, .int t_capacity, .int t_limit, .int t_mustSet, .int t_neverSet, .int t_hand, .ref q_weight, .ref q_gain, .ref q_joy, .ref q_bars, .ref q_needs]))]) [0] rfl
    have hD9 := hD.sub (ws' := [(q, .inr (8, [.int t_items, .int t_capacity, .int t_limit, .int t_mustSet, .int t_neverSet, .int t_hand, .ref q_weight, .ref q_gain, .ref q_joy, .ref q_bars, .ref q_needs]))]) [0] (by decide) rfl
    exact W.zret (v := (0 : Int32)) (ty := .boolean) hx hb hr rfl (fun t ht hW => ⟨⟨(0 : Int32), (), rfl, hwp, by rw [ht]; exact hP9, va_K.moved hW.alike hK, hD9⟩, hS.F ht⟩) hS.2.2 dX8_hasItem_17
  · have hwp := hwp.2 c1
    refine lv_iload_n hx hb dX8_hasItem_4 rfl (lv_at hl 1 rfl) ?_
    refine lv_aload_n hx hb dX8_hasItem_5 rfl (lv_at hl 0 rfl) ?_
    refine va_get (D := D) (ci := 8) (v := .int t_items) (C := RX8) (T := TX8) (N := 11) hx hb hts iwX8 hown hK hP 0 rfl rfl 0 (by decide) (hts (.fieldLink RX8 34 "ParetoDesk$Setup" "items" "I") wd_84) (fun _ h9 => h9) rfl dX8_hasItem_6 ?_
    refine lv_icmp_ge (tgt := 16) hx hb dX8_hasItem_9 (by decide) (fun c9 => ?_) (fun c9 => ?_)
    · have hwp := hwp.1 c9
      refine lv_iconst (v := 0) hx hb dX8_hasItem_16 (by decide) ?_
      have hP9 := hP.sub (ws' := [(q, .inr (8, [.int t_items, .int t_capacity, .int t_limit, .int t_mustSet, .int t_neverSet, .int t_hand, .ref q_weight, .ref q_gain, .ref q_joy, .ref q_bars, .ref q_needs]))]) [0] rfl
      have hD9 := hD.sub (ws' := [(q, .inr (8, [.int t_items, .int t_capacity, .int t_limit, .int t_mustSet, .int t_neverSet, .int t_hand, .ref q_weight, .ref q_gain, .ref q_joy, .ref q_bars, .ref q_needs]))]) [0] (by decide) rfl
      exact W.zret (v := (0 : Int32)) (ty := .boolean) hx hb hr rfl (fun t ht hW => ⟨⟨(0 : Int32), (), rfl, hwp, by rw [ht]; exact hP9, va_K.moved hW.alike hK, hD9⟩, hS.F ht⟩) hS.2.2 dX8_hasItem_17
    · have hwp := hwp.2 c9
      refine lv_iconst (v := 1) hx hb dX8_hasItem_12 (by decide) ?_
      refine lv_goto (tgt := 17) hx hb dX8_hasItem_13 (by decide) ?_
      have hP9 := hP.sub (ws' := [(q, .inr (8, [.int t_items, .int t_capacity, .int t_limit, .int t_mustSet, .int t_neverSet, .int t_hand, .ref q_weight, .ref q_gain, .ref q_joy, .ref q_bars, .ref q_needs]))]) [0] rfl
      have hD9 := hD.sub (ws' := [(q, .inr (8, [.int t_items, .int t_capacity, .int t_limit, .int t_mustSet, .int t_neverSet, .int t_hand, .ref q_weight, .ref q_gain, .ref q_joy, .ref q_bars, .ref q_needs]))]) [0] (by decide) rfl
      exact W.zret (v := (1 : Int32)) (ty := .boolean) hx hb hr rfl (fun t ht hW => ⟨⟨(1 : Int32), (), rfl, hwp, by rw [ht]; exact hP9, va_K.moved hW.alike hK, hD9⟩, hS.F ht⟩) hS.2.2 dX8_hasItem_17
abbrev ws_X8_everyItem : List Cond := .code yX8_everyItem cX8_everyItem 1 (some .int) :: WALL
abbrev rm_X8_everyItem : Room := { frames := 0, cells := 0, slots := 0, locals := 0 }
abbrev w_X8_everyItem (C : Nat → ClassId) (q : Nat) (q_weight : Nat) (q_gain : Nat) (q_joy : Nat) (q_bars : Nat) (q_needs : Nat) (t_items : Int32) (t_capacity : Int32) (t_limit : Int32) (t_mustSet : Int32) (t_neverSet : Int32) (t_hand : Int32) : va_W := [(q, .inr (8, [.int t_items, .int t_capacity, .int t_limit, .int t_mustSet, .int t_neverSet, .int t_hand, .ref q_weight, .ref q_gain, .ref q_joy, .ref q_bars, .ref q_needs]))]
abbrev q_X8_everyItem (D : va_G) (C : Nat → ClassId) (q : Nat) (q_weight : Nat) (q_gain : Nat) (q_joy : Nat) (q_bars : Nat) (q_needs : Nat) (t_items : Int32) (t_capacity : Int32) (t_limit : Int32) (t_mustSet : Int32) (t_neverSet : Int32) (t_hand : Int32) (Q : Int32 → Prop) (A : Nat → Prop) : Array Value → State → Outcome → State → Prop := va_Qi (fun (r : Int32) (u : Unit) => Q r) (fun (u : Unit) (t : State) => va_P D vwCl (w_X8_everyItem C q q_weight q_gain q_joy q_bars q_needs t_items t_capacity t_limit t_mustSet t_neverSet t_hand) t.heap ∧ va_K D vwCl (tyL C) t ∧ va_D A (w_X8_everyItem C q q_weight q_gain q_joy q_bars q_needs t_items t_capacity t_limit t_mustSet t_neverSet t_hand)) A
set_option maxHeartbeats 4000000 in
set_option maxRecDepth 100000 in
theorem met_X8_everyItem (l : Launch) (D : va_G) (C : Nat → ClassId) (q : Nat) (q_weight : Nat) (q_gain : Nat) (q_joy : Nat) (q_bars : Nat) (q_needs : Nat) (t_items : Int32) (t_capacity : Int32) (t_limit : Int32) (t_mustSet : Int32) (t_neverSet : Int32) (t_hand : Int32) (sz : Nat) (Q : Int32 → Prop) (hwp : wp_X8_everyItem t_items Q) : Met l yX8_everyItem ws_X8_everyItem rm_X8_everyItem (va_Pc [.ref q] (fun U => U.heap.size = sz ∧ va_P D vwCl (w_X8_everyItem C q q_weight q_gain q_joy q_bars q_needs t_items t_capacity t_limit t_mustSet t_neverSet t_hand) U.heap ∧ va_K D vwCl (tyL C) U ∧ va_D (fun _ => True) (w_X8_everyItem C q q_weight q_gain q_joy q_bars q_needs t_items t_capacity t_limit t_mustSet t_neverSet t_hand))) (q_X8_everyItem D C q q_weight q_gain q_joy q_bars q_needs t_items t_capacity t_limit t_mustSet t_neverSet t_hand Q (va_A (w_X8_everyItem C q q_weight q_gain q_joy q_bars q_needs t_items t_capacity t_limit t_mustSet t_neverSet t_hand) sz)) 0 0 (va_A (w_X8_everyItem C q q_weight q_gain q_joy q_bars q_needs t_items t_capacity t_limit t_mustSet t_neverSet t_hand) sz) := by
  refine Met.ofW (cc := cX8_everyItem) (maxL := 1) (ret := (some .int)) (by decide) rfl ?_
  intro p e s m args below meth c s₁ B hml hv
  obtain ⟨rfl, hsz, hP, hK, hD0⟩ := hv
  have hx := B.exec
  have hb := B.bytes
  have hr := B.returns
  have hts : ∀ w ∈ WALL, w.before _ s = true := fun w h => atoms_spec (ws := ws_X8_everyItem) B.pre w (List.mem_cons_of_mem _ h)
  have hown : s.vm.findClass RX8 = some m.cls := findClass_of_methodNamed B.named
  have hlocks := B.notSynchronized
  subst hsz
  have hD := hD0.self (sz := s.heap.size)
  generalize hAe : va_A (w_X8_everyItem C q q_weight q_gain q_joy q_bars q_needs t_items t_capacity t_limit t_mustSet t_neverSet t_hand) s.heap.size = A at hD ⊢
  have hA : ∀ q : Nat, s.heap.size ≤ q → A q := fun q h => by rw [← hAe]; exact Or.inr h
  have hS : va_S A s.heap s.heap [] := va_S.rf
  have hl := lv_entry ([.ref q]) (n := 1) (Nat.le_of_ble_eq_true rfl)
  rw [lg_entry_eq]
  generalize (lg_sl ([.ref q]) ++ List.replicate (1 - (lg_sl ([.ref q])).length) Slot.unset).toArray = ls at hl ⊢
  have hl : lv_has ls 1 [(0, .ref q)] := hl
  unfold wp_X8_everyItem at hwp
  obtain ⟨H, hH⟩ : ∃ H, H = s.heap := ⟨_, rfl⟩
  obtain ⟨locs, hlo⟩ : ∃ z : List Loc, z = [] := ⟨_, rfl⟩
  have hP : va_P D vwCl [(q, .inr (8, [.int t_items, .int t_capacity, .int t_limit, .int t_mustSet, .int t_neverSet, .int t_hand, .ref q_weight, .ref q_gain, .ref q_joy, .ref q_bars, .ref q_needs]))] H := by rw [hH]; exact hP
  have hD : va_D A [(q, .inr (8, [.int t_items, .int t_capacity, .int t_limit, .int t_mustSet, .int t_neverSet, .int t_hand, .ref q_weight, .ref q_gain, .ref q_joy, .ref q_bars, .ref q_needs]))] := hD
  have hS : va_S A s.heap H locs := by rw [hH, hlo]; exact hS
  suffices K : W p l e (headSpec ws_X8_everyItem rm_X8_everyItem).room s m ([.ref q] : List Value).toArray below meth c H locs 0 0 (MQ below (q_X8_everyItem D C q q_weight q_gain q_joy q_bars q_needs t_items t_capacity t_limit t_mustSet t_neverSet t_hand Q A) ([.ref q] : List Value).toArray s 0 0 A) (F0 m 0 ls []) from by rw [hH, hlo] at K; exact K
  refine lv_iconst (v := 1) hx hb dX8_everyItem_0 (by decide) ?_
  refine lv_aload_n hx hb dX8_everyItem_1 rfl (lv_at hl 0 rfl) ?_
  refine va_get (D := D) (ci := 8) (v := .int t_items) (C := RX8) (T := TX8) (N := 11) hx hb hts iwX8 hown hK hP 0 rfl rfl 0 (by decide) (hts (.fieldLink RX8 34 "ParetoDesk$Setup" "items" "I") wd_84) (fun _ h9 => h9) rfl dX8_everyItem_2 ?_
  refine lv_ishl hx hb dX8_everyItem_5 ?_
  refine lv_iconst (v := 1) hx hb dX8_everyItem_6 (by decide) ?_
  refine lv_isub hx hb dX8_everyItem_7 ?_
  have hP9 := hP.sub (ws' := [(q, .inr (8, [.int t_items, .int t_capacity, .int t_limit, .int t_mustSet, .int t_neverSet, .int t_hand, .ref q_weight, .ref q_gain, .ref q_joy, .ref q_bars, .ref q_needs]))]) [0] rfl
  have hD9 := hD.sub (ws' := [(q, .inr (8, [.int t_items, .int t_capacity, .int t_limit, .int t_mustSet, .int t_neverSet, .int t_hand, .ref q_weight, .ref q_gain, .ref q_joy, .ref q_bars, .ref q_needs]))]) [0] (by decide) rfl
  exact W.iret (v := ((1 : Int32) <<< (t_items &&& 31)) - (1 : Int32)) hx hb hr (fun t ht hW => ⟨⟨((1 : Int32) <<< (t_items &&& 31)) - (1 : Int32), (), rfl, hwp, by rw [ht]; exact hP9, va_K.moved hW.alike hK, hD9⟩, hS.F ht⟩) hS.2.2 dX8_everyItem_8
abbrev ws_X8_countBits : List Cond := .code yX8_countBits cX8_countBits 4 (some .int) :: WALL
theorem gc_X8_37 : GoodIn WALL (va_wsS RX8 37 yJ6_bitCount_0f7a4 ws_J6_bitCount_0f7a4) := gc_s wd_529 wd_530 wd_57 wd_531
abbrev rm_X8_countBits : Room := { frames := 1, cells := 0, slots := 0, locals := 20 }
abbrev w_X8_countBits (C : Nat → ClassId) (q : Nat) (q_weight : Nat) (q_gain : Nat) (q_joy : Nat) (q_bars : Nat) (q_needs : Nat) (q1 : Nat) (t_items : Int32) (t_capacity : Int32) (t_limit : Int32) (t_mustSet : Int32) (t_neverSet : Int32) (t_hand : Int32) (t1 : Nat → Int32) : va_W := [(q, .inr (8, [.int t_items, .int t_capacity, .int t_limit, .int t_mustSet, .int t_neverSet, .int t_hand, .ref q_weight, .ref q_gain, .ref q_joy, .ref q_bars, .ref q_needs])), (q1, .inl (C 0, 12, .inl t1))]
abbrev q_X8_countBits (D : va_G) (C : Nat → ClassId) (q : Nat) (q_weight : Nat) (q_gain : Nat) (q_joy : Nat) (q_bars : Nat) (q_needs : Nat) (q1 : Nat) (t_items : Int32) (t_capacity : Int32) (t_limit : Int32) (t_mustSet : Int32) (t_neverSet : Int32) (t_hand : Int32) (t1 : Nat → Int32) (Q : Int32 → Prop) (A : Nat → Prop) : Array Value → State → Outcome → State → Prop := va_Qi (fun (r : Int32) (u : Unit) => Q r) (fun (u : Unit) (t : State) => va_P D vwCl (w_X8_countBits C q q_weight q_gain q_joy q_bars q_needs q1 t_items t_capacity t_limit t_mustSet t_neverSet t_hand t1) t.heap ∧ va_K D vwCl (tyL C) t ∧ va_D A (w_X8_countBits C q q_weight q_gain q_joy q_bars q_needs q1 t_items t_capacity t_limit t_mustSet t_neverSet t_hand t1)) A
set_option maxHeartbeats 4000000 in
set_option maxRecDepth 100000 in
theorem met_X8_countBits (l : Launch) (D : va_G) (C : Nat → ClassId) (q : Nat) (q_weight : Nat) (q_gain : Nat) (q_joy : Nat) (q_bars : Nat) (q_needs : Nat) (q1 : Nat) (t_items : Int32) (t_capacity : Int32) (t_limit : Int32) (t_mustSet : Int32) (t_neverSet : Int32) (t_hand : Int32) (t1 : Nat → Int32) (sz : Nat) (Q : Int32 → Prop) (hwp : wp_X8_countBits t_items t1 Q) : Met l yX8_countBits ws_X8_countBits rm_X8_countBits (va_Pc [.ref q, .ref q1] (fun U => U.heap.size = sz ∧ va_P D vwCl (w_X8_countBits C q q_weight q_gain q_joy q_bars q_needs q1 t_items t_capacity t_limit t_mustSet t_neverSet t_hand t1) U.heap ∧ va_K D vwCl (tyL C) U ∧ va_D (fun _ => True) (w_X8_countBits C q q_weight q_gain q_joy q_bars q_needs q1 t_items t_capacity t_limit t_mustSet t_neverSet t_hand t1))) (q_X8_countBits D C q q_weight q_gain q_joy q_bars q_needs q1 t_items t_capacity t_limit t_mustSet t_neverSet t_hand t1 Q (va_A (w_X8_countBits C q q_weight q_gain q_joy q_bars q_needs q1 t_items t_capacity t_limit t_mustSet t_neverSet t_hand t1) sz)) 0 0 (va_A (w_X8_countBits C q q_weight q_gain q_joy q_bars q_needs q1 t_items t_capacity t_limit t_mustSet t_neverSet t_hand t1) sz) := by
  refine Met.ofW (cc := cX8_countBits) (maxL := 4) (ret := (some .int)) (by decide) rfl ?_
  intro p e s m args below meth c s₁ B hml hv
  obtain ⟨rfl, hsz, hP, hK, hD0⟩ := hv
  have hx := B.exec
  have hb := B.bytes
  have hr := B.returns
  have hts : ∀ w ∈ WALL, w.before _ s = true := fun w h => atoms_spec (ws := ws_X8_countBits) B.pre w (List.mem_cons_of_mem _ h)
  have hown : s.vm.findClass RX8 = some m.cls := findClass_of_methodNamed B.named
  have hlocks := B.notSynchronized
  subst hsz
  have hD := hD0.self (sz := s.heap.size)
  generalize hAe : va_A (w_X8_countBits C q q_weight q_gain q_joy q_bars q_needs q1 t_items t_capacity t_limit t_mustSet t_neverSet t_hand t1) s.heap.size = A at hD ⊢
  have hA : ∀ q : Nat, s.heap.size ≤ q → A q := fun q h => by rw [← hAe]; exact Or.inr h
  have hS : va_S A s.heap s.heap [] := va_S.rf
  have hl := lv_entry ([.ref q, .ref q1]) (n := 4) (Nat.le_of_ble_eq_true rfl)
  rw [lg_entry_eq]
  generalize (lg_sl ([.ref q, .ref q1]) ++ List.replicate (4 - (lg_sl ([.ref q, .ref q1])).length) Slot.unset).toArray = ls at hl ⊢
  have hl : lv_has ls 4 [(0, .ref q), (1, .ref q1)] := hl
  have HL4 : ∀  (n4 : Nat) (x2 : Int32) (x3 : Int32) (H : Heap) (locs : List Loc) (ls : Array Slot), lv_has ls 4 [(0, .ref q), (1, .ref q1), (2, .int x2), (3, .int x3)] → va_P D vwCl [(q, .inr (8, [.int t_items, .int t_capacity, .int t_limit, .int t_mustSet, .int t_neverSet, .int t_hand, .ref q_weight, .ref q_gain, .ref q_joy, .ref q_bars, .ref q_needs])), (q1, .inl (C 0, 12, .inl t1))] H → va_D A [(q, .inr (8, [.int t_items, .int t_capacity, .int t_limit, .int t_mustSet, .int t_neverSet, .int t_hand, .ref q_weight, .ref q_gain, .ref q_joy, .ref q_bars, .ref q_needs])), (q1, .inl (C 0, 12, .inl t1))] → va_S A s.heap H locs → wp_X8_countBits_L4 t_items t1 Q n4 x2 x3 → W p l e (headSpec ws_X8_countBits rm_X8_countBits).room s m ([.ref q, .ref q1] : List Value).toArray below meth c H locs 0 0 (MQ below (q_X8_countBits D C q q_weight q_gain q_joy q_bars q_needs q1 t_items t_capacity t_limit t_mustSet t_neverSet t_hand t1 Q A) ([.ref q, .ref q1] : List Value).toArray s 0 0 A) (F0 m 4 ls []) := by
    intro  n4
    induction n4 with
    | zero =>
      intro x2 x3 H locs ls hl hP hD hS hwp
      exact False.elim hwp
    | succ n4 ih =>
      intro x2 x3 H locs ls hl hP hD hS hwp
      unfold wp_X8_countBits_L4 at hwp
      refine lv_iload_n hx hb dX8_countBits_4 rfl (lv_at hl 3 rfl) ?_
      refine lv_aload_n hx hb dX8_countBits_5 rfl (lv_at hl 0 rfl) ?_
      refine va_get (D := D) (ci := 8) (v := .int t_items) (C := RX8) (T := TX8) (N := 11) hx hb hts iwX8 hown hK hP 0 rfl rfl 0 (by decide) (hts (.fieldLink RX8 34 "ParetoDesk$Setup" "items" "I") wd_84) (fun _ h9 => h9) rfl dX8_countBits_6 ?_
      refine lv_icmp_ge (tgt := 27) hx hb dX8_countBits_9 (by decide) (fun c9 => ?_) (fun c9 => ?_)
      · have hwp := hwp.1 c9
        refine lv_iload_n hx hb dX8_countBits_27 rfl (lv_at hl 2 rfl) ?_
        have hP9 := hP.sub (ws' := [(q, .inr (8, [.int t_items, .int t_capacity, .int t_limit, .int t_mustSet, .int t_neverSet, .int t_hand, .ref q_weight, .ref q_gain, .ref q_joy, .ref q_bars, .ref q_needs])), (q1, .inl (C 0, 12, .inl t1))]) [0, 1] rfl
        have hD9 := hD.sub (ws' := [(q, .inr (8, [.int t_items, .int t_capacity, .int t_limit, .int t_mustSet, .int t_neverSet, .int t_hand, .ref q_weight, .ref q_gain, .ref q_joy, .ref q_bars, .ref q_needs])), (q1, .inl (C 0, 12, .inl t1))]) [0, 1] (by decide) rfl
        exact W.iret (v := x2) hx hb hr (fun t ht hW => ⟨⟨x2, (), rfl, hwp, by rw [ht]; exact hP9, va_K.moved hW.alike hK, hD9⟩, hS.F ht⟩) hS.2.2 dX8_countBits_28
      · have hwp := hwp.2 c9
        refine lv_iload_n hx hb dX8_countBits_12 rfl (lv_at hl 2 rfl) ?_
        refine lv_aload_n hx hb dX8_countBits_13 rfl (lv_at hl 1 rfl) ?_
        refine lv_iload_n hx hb dX8_countBits_14 rfl (lv_at hl 3 rfl) ?_
        obtain ⟨hi15, hwp⟩ := hwp
        refine va_iald (D := D) hx hb hK hP 1 0 rfl rfl hi15 dX8_countBits_15 ?_
        have hPc := hP.sub (ws' := []) [] rfl
        have hDc := hD.sub (ws' := []) [] (by decide) rfl
        have hFc := va_free (wc := []) hD hS hA [] rfl
        refine va_calli (va_runS (As := [.int (t1 x3.toNatClampNeg)]) (rest := [.int x2]) ⟨hx, hb, hml, hown, hts⟩ (met_J6_bitCount_0f7a4 l D C (t1 x3.toNatClampNeg) H.size _ hwp) (va_cwS 1 hts gc_X8_37 rfl rfl rfl (by decide +kernel) ⟨Nat.le_of_ble_eq_true rfl, Nat.le_of_ble_eq_true rfl⟩) ⟨fun a U g mk q => by obtain ⟨q0, q1, qP, qK, qD⟩ := q; exact ⟨q0, q1, qP, va_K.moved (u := U) (U := U.calling g mk a) (Vm.Alike.refl U.vm) qK, qD⟩, fun U hU hW => ⟨rfl, by rw [hU], by rw [hU]; exact hPc, va_K.moved hW.alike hK, hDc.weaken (fun _ _ _ _ => trivial)⟩⟩ rfl rfl hl.1 rfl (lv_room (Nat.le_of_ble_eq_true rfl)) dX8_countBits_16 ⟨Nat.zero_le _, Nat.zero_le _⟩) hS (fun q _ h => hFc q h) hFc (fun r16 u t H1 locs ht hvm hwp hB hz1 hk1 hS => ?_)
        obtain ⟨hP1, -, hD1⟩ := hB
        rw [ht] at hP1
        obtain ⟨hP, hD⟩ := va_join (wr := [(q, .inr (8, [.int t_items, .int t_capacity, .int t_limit, .int t_mustSet, .int t_neverSet, .int t_hand, .ref q_weight, .ref q_gain, .ref q_joy, .ref q_bars, .ref q_needs])), (q1, .inl (C 0, 12, .inl t1))]) (w1 := []) hP hD [] [0, 1] rfl rfl (by decide) (by decide) hk1 hFc hP1 hD1
        generalize H1 = H at hP hS ⊢
        have hP : va_P D vwCl [(q, .inr (8, [.int t_items, .int t_capacity, .int t_limit, .int t_mustSet, .int t_neverSet, .int t_hand, .ref q_weight, .ref q_gain, .ref q_joy, .ref q_bars, .ref q_needs])), (q1, .inl (C 0, 12, .inl t1))] H := hP
        have hD : va_D A [(q, .inr (8, [.int t_items, .int t_capacity, .int t_limit, .int t_mustSet, .int t_neverSet, .int t_hand, .ref q_weight, .ref q_gain, .ref q_joy, .ref q_bars, .ref q_needs])), (q1, .inl (C 0, 12, .inl t1))] := hD
        refine lv_iadd hx hb dX8_countBits_19 ?_
        refine lv_topi (fun v20 ev20 => ?_)
        have hwp := hwp v20 ev20
        refine lv_istore_n (lv' := [(2, .int v20), (0, .ref q), (1, .ref q1), (3, .int x3)]) hx hb dX8_countBits_20 rfl hl (by decide) rfl (fun ls hl => ?_)
        refine lv_iinc (v := x3 + 1) (lv' := [(3, .int (x3 + 1)), (2, .int v20), (0, .ref q), (1, .ref q1)]) hx hb dX8_countBits_21 hl (k := 3) rfl rfl (by decide) rfl (fun ls hl => ?_)
        refine lv_goto (tgt := 4) hx hb dX8_countBits_24 (by decide) ?_
        have hl9 := lv_sub (l' := [(0, .ref q), (1, .ref q1), (2, .int v20), (3, .int (x3 + 1))]) hl [2, 3, 1, 0] rfl
        have hP9 := hP.sub (ws' := [(q, .inr (8, [.int t_items, .int t_capacity, .int t_limit, .int t_mustSet, .int t_neverSet, .int t_hand, .ref q_weight, .ref q_gain, .ref q_joy, .ref q_bars, .ref q_needs])), (q1, .inl (C 0, 12, .inl t1))]) [0, 1] rfl
        have hD9 := hD.sub (ws' := [(q, .inr (8, [.int t_items, .int t_capacity, .int t_limit, .int t_mustSet, .int t_neverSet, .int t_hand, .ref q_weight, .ref q_gain, .ref q_joy, .ref q_bars, .ref q_needs])), (q1, .inl (C 0, 12, .inl t1))]) [0, 1] (by decide) rfl
        exact ih v20 (x3 + 1) H locs ls hl9 hP9 hD9 hS hwp
  unfold wp_X8_countBits at hwp
  obtain ⟨H, hH⟩ : ∃ H, H = s.heap := ⟨_, rfl⟩
  obtain ⟨locs, hlo⟩ : ∃ z : List Loc, z = [] := ⟨_, rfl⟩
  have hP : va_P D vwCl [(q, .inr (8, [.int t_items, .int t_capacity, .int t_limit, .int t_mustSet, .int t_neverSet, .int t_hand, .ref q_weight, .ref q_gain, .ref q_joy, .ref q_bars, .ref q_needs])), (q1, .inl (C 0, 12, .inl t1))] H := by rw [hH]; exact hP
  have hD : va_D A [(q, .inr (8, [.int t_items, .int t_capacity, .int t_limit, .int t_mustSet, .int t_neverSet, .int t_hand, .ref q_weight, .ref q_gain, .ref q_joy, .ref q_bars, .ref q_needs])), (q1, .inl (C 0, 12, .inl t1))] := hD
  have hS : va_S A s.heap H locs := by rw [hH, hlo]; exact hS
  suffices K : W p l e (headSpec ws_X8_countBits rm_X8_countBits).room s m ([.ref q, .ref q1] : List Value).toArray below meth c H locs 0 0 (MQ below (q_X8_countBits D C q q_weight q_gain q_joy q_bars q_needs q1 t_items t_capacity t_limit t_mustSet t_neverSet t_hand t1 Q A) ([.ref q, .ref q1] : List Value).toArray s 0 0 A) (F0 m 0 ls []) from by rw [hH, hlo] at K; exact K
  refine lv_iconst (v := 0) hx hb dX8_countBits_0 (by decide) ?_
  refine lv_istore_n (lv' := [(2, .int (0 : Int32)), (0, .ref q), (1, .ref q1)]) hx hb dX8_countBits_1 rfl hl (by decide) rfl (fun ls hl => ?_)
  refine lv_iconst (v := 0) hx hb dX8_countBits_2 (by decide) ?_
  refine lv_istore_n (lv' := [(3, .int (0 : Int32)), (2, .int (0 : Int32)), (0, .ref q), (1, .ref q1)]) hx hb dX8_countBits_3 rfl hl (by decide) rfl (fun ls hl => ?_)
  have hl9 := lv_sub (l' := [(0, .ref q), (1, .ref q1), (2, .int (0 : Int32)), (3, .int (0 : Int32))]) hl [2, 3, 1, 0] rfl
  have hP9 := hP.sub (ws' := [(q, .inr (8, [.int t_items, .int t_capacity, .int t_limit, .int t_mustSet, .int t_neverSet, .int t_hand, .ref q_weight, .ref q_gain, .ref q_joy, .ref q_bars, .ref q_needs])), (q1, .inl (C 0, 12, .inl t1))]) [0, 1] rfl
  have hD9 := hD.sub (ws' := [(q, .inr (8, [.int t_items, .int t_capacity, .int t_limit, .int t_mustSet, .int t_neverSet, .int t_hand, .ref q_weight, .ref q_gain, .ref q_joy, .ref q_bars, .ref q_needs])), (q1, .inl (C 0, 12, .inl t1))]) [0, 1] (by decide) rfl
  obtain ⟨nn9, hwp⟩ := hwp
  refine HL4  nn9 (0 : Int32) (0 : Int32) H locs ls hl9 hP9 hD9 hS hwp
