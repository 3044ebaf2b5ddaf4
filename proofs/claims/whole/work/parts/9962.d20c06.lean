abbrev ws_X8_addLast : List Cond := .code yX8_addLast cX8_addLast 4 none :: WALL
abbrev rm_X8_addLast : Room := { frames := 0, cells := 0, slots := 0, locals := 0 }
abbrev w_X8_addLast (C : Nat → ClassId) (q : Nat) (q_weight : Nat) (q_gain : Nat) (q_joy : Nat) (q_bars : Nat) (q_needs : Nat) (t_items : Int32) (t_capacity : Int32) (t_limit : Int32) (t_mustSet : Int32) (t_neverSet : Int32) (t_hand : Int32) (t_weight : Nat → Int32) (t_gain : Nat → Int32) (t_joy : Nat → Int32) (t_bars : Nat → Int32) (t_needs : Nat → Int32) : va_W := [(q, .inr (8, [.int t_items, .int t_capacity, .int t_limit, .int t_mustSet, .int t_neverSet, .int t_hand, .ref q_weight, .ref q_gain, .ref q_joy, .ref q_bars, .ref q_needs])), (q_weight, .inl (C 0, 12, .inl t_weight)), (q_gain, .inl (C 0, 12, .inl t_gain)), (q_joy, .inl (C 0, 12, .inl t_joy)), (q_bars, .inl (C 0, 12, .inl t_bars)), (q_needs, .inl (C 0, 12, .inl t_needs))]
abbrev q_X8_addLast (D : va_G) (C : Nat → ClassId) (q : Nat) (q_weight : Nat) (q_gain : Nat) (q_joy : Nat) (q_bars : Nat) (q_needs : Nat) (t_capacity : Int32) (t_limit : Int32) (t_mustSet : Int32) (t_neverSet : Int32) (t_hand : Int32) (Q : Int32 → (Nat → Int32) → (Nat → Int32) → (Nat → Int32) → (Nat → Int32) → (Nat → Int32) → Prop) (A : Nat → Prop) : Array Value → State → Outcome → State → Prop := va_Qv (fun (u : Int32 × (Nat → Int32) × (Nat → Int32) × (Nat → Int32) × (Nat → Int32) × (Nat → Int32)) => Q u.1 u.2.1 u.2.2.1 u.2.2.2.1 u.2.2.2.2.1 u.2.2.2.2.2) (fun (u : Int32 × (Nat → Int32) × (Nat → Int32) × (Nat → Int32) × (Nat → Int32) × (Nat → Int32)) (t : State) => va_P D vwCl (w_X8_addLast C q q_weight q_gain q_joy q_bars q_needs u.1 t_capacity t_limit t_mustSet t_neverSet t_hand u.2.1 u.2.2.1 u.2.2.2.1 u.2.2.2.2.1 u.2.2.2.2.2) t.heap ∧ va_K D vwCl (tyL C) t ∧ va_D A (w_X8_addLast C q q_weight q_gain q_joy q_bars q_needs u.1 t_capacity t_limit t_mustSet t_neverSet t_hand u.2.1 u.2.2.1 u.2.2.2.1 u.2.2.2.2.1 u.2.2.2.2.2)) A
set_option maxHeartbeats 4000000 in
set_option maxRecDepth 100000 in
theorem met_X8_addLast (l : Launch) (D : va_G) (C : Nat → ClassId) (q : Nat) (q_weight : Nat) (q_gain : Nat) (q_joy : Nat) (q_bars : Nat) (q_needs : Nat) (p1 : Int32) (p2 : Int32) (p3 : Int32) (t_items : Int32) (t_capacity : Int32) (t_limit : Int32) (t_mustSet : Int32) (t_neverSet : Int32) (t_hand : Int32) (t_weight : Nat → Int32) (t_gain : Nat → Int32) (t_joy : Nat → Int32) (t_bars : Nat → Int32) (t_needs : Nat → Int32) (sz : Nat) (Q : Int32 → (Nat → Int32) → (Nat → Int32) → (Nat → Int32) → (Nat → Int32) → (Nat → Int32) → Prop) (hwp : wp_X8_addLast p1 p2 p3 t_items t_weight t_gain t_joy t_bars t_needs Q) : Met l yX8_addLast ws_X8_addLast rm_X8_addLast (va_Pc [.ref q, .int p1, .int p2, .int p3] (fun U => U.heap.size = sz ∧ va_P D vwCl (w_X8_addLast C q q_weight q_gain q_joy q_bars q_needs t_items t_capacity t_limit t_mustSet t_neverSet t_hand t_weight t_gain t_joy t_bars t_needs) U.heap ∧ va_K D vwCl (tyL C) U ∧ va_D (fun _ => True) (w_X8_addLast C q q_weight q_gain q_joy q_bars q_needs t_items t_capacity t_limit t_mustSet t_neverSet t_hand t_weight t_gain t_joy t_bars t_needs))) (q_X8_addLast D C q q_weight q_gain q_joy q_bars q_needs t_capacity t_limit t_mustSet t_neverSet t_hand Q (va_A (w_X8_addLast C q q_weight q_gain q_joy q_bars q_needs t_items t_capacity t_limit t_mustSet t_neverSet t_hand t_weight t_gain t_joy t_bars t_needs) sz)) 0 0 (va_A (w_X8_addLast C q q_weight q_gain q_joy q_bars q_needs t_items t_capacity t_limit t_mustSet t_neverSet t_hand t_weight t_gain t_joy t_bars t_needs) sz) := by
  refine Met.ofW (cc := cX8_addLast) (maxL := 4) (ret := none) (by decide) rfl ?_
  intro p e s m args below meth c s₁ B hml hv
  obtain ⟨rfl, hsz, hP, hK, hD0⟩ := hv
  have hx := B.exec
  have hb := B.bytes
  have hr := B.returns
  have hts : ∀ w ∈ WALL, w.before _ s = true := fun w h => atoms_spec (ws := ws_X8_addLast) B.pre w (List.mem_cons_of_mem _ h)
  have hown : s.vm.findClass RX8 = some m.cls := findClass_of_methodNamed B.named
  have hlocks := B.notSynchronized
  subst hsz
  have hD := hD0.self (sz := s.heap.size)
  generalize hAe : va_A (w_X8_addLast C q q_weight q_gain q_joy q_bars q_needs t_items t_capacity t_limit t_mustSet t_neverSet t_hand t_weight t_gain t_joy t_bars t_needs) s.heap.size = A at hD ⊢
  have hA : ∀ q : Nat, s.heap.size ≤ q → A q := fun q h => by rw [← hAe]; exact Or.inr h
  have hS : va_S A s.heap s.heap [] := va_S.rf
  have hl := lv_entry ([.ref q, .int p1, .int p2, .int p3]) (n := 4) (Nat.le_of_ble_eq_true rfl)
  rw [lg_entry_eq]
  generalize (lg_sl ([.ref q, .int p1, .int p2, .int p3]) ++ List.replicate (4 - (lg_sl ([.ref q, .int p1, .int p2, .int p3])).length) Slot.unset).toArray = ls at hl ⊢
  have hl : lv_has ls 4 [(0, .ref q), (1, .int p1), (2, .int p2), (3, .int p3)] := hl
  unfold wp_X8_addLast at hwp
  obtain ⟨H, hH⟩ : ∃ H, H = s.heap := ⟨_, rfl⟩
  obtain ⟨locs, hlo⟩ : ∃ z : List Loc, z = [] := ⟨_, rfl⟩
  have hP : va_P D vwCl [(q, .inr (8, [.int t_items, .int t_capacity, .int t_limit, .int t_mustSet, .int t_neverSet, .int t_hand, .ref q_weight, .ref q_gain, .ref q_joy, .ref q_bars, .ref q_needs])), (q_weight, .inl (C 0, 12, .inl t_weight)), (q_gain, .inl (C 0, 12, .inl t_gain)), (q_joy, .inl (C 0, 12, .inl t_joy)), (q_bars, .inl (C 0, 12, .inl t_bars)), (q_needs, .inl (C 0, 12, .inl t_needs))] H := by rw [hH]; exact hP
  have hD : va_D A [(q, .inr (8, [.int t_items, .int t_capacity, .int t_limit, .int t_mustSet, .int t_neverSet, .int t_hand, .ref q_weight, .ref q_gain, .ref q_joy, .ref q_bars, .ref q_needs])), (q_weight, .inl (C 0, 12, .inl t_weight)), (q_gain, .inl (C 0, 12, .inl t_gain)), (q_joy, .inl (C 0, 12, .inl t_joy)), (q_bars, .inl (C 0, 12, .inl t_bars)), (q_needs, .inl (C 0, 12, .inl t_needs))] := hD
  have hS : va_S A s.heap H locs := by rw [hH, hlo]; exact hS
  suffices K : W p l e (headSpec ws_X8_addLast rm_X8_addLast).room s m ([.ref q, .int p1, .int p2, .int p3] : List Value).toArray below meth c H locs 0 0 (MQ below (q_X8_addLast D C q q_weight q_gain q_joy q_bars q_needs t_capacity t_limit t_mustSet t_neverSet t_hand Q A) ([.ref q, .int p1, .int p2, .int p3] : List Value).toArray s 0 0 A) (F0 m 0 ls []) from by rw [hH, hlo] at K; exact K
  refine lv_aload_n hx hb dX8_addLast_0 rfl (lv_at hl 0 rfl) ?_
  refine va_get (D := D) (ci := 8) (v := .int t_items) (C := RX8) (T := TX8) (N := 11) hx hb hts iwX8 hown hK hP 0 rfl rfl 0 (by decide) (hts (.fieldLink RX8 34 "ParetoDesk$Setup" "items" "I") wd_160) (fun _ h9 => h9) rfl dX8_addLast_1 ?_
  refine lv_bipush (v := 12) hx hb dX8_addLast_4 (by decide) ?_
  refine lv_icmp_ge (tgt := 69) hx hb dX8_addLast_6 (by decide) (fun c6 => ?_) (fun c6 => ?_)
  · have hwp := hwp.1 c6
    have hP9 := hP.sub (ws' := [(q, .inr (8, [.int t_items, .int t_capacity, .int t_limit, .int t_mustSet, .int t_neverSet, .int t_hand, .ref q_weight, .ref q_gain, .ref q_joy, .ref q_bars, .ref q_needs])), (q_weight, .inl (C 0, 12, .inl t_weight)), (q_gain, .inl (C 0, 12, .inl t_gain)), (q_joy, .inl (C 0, 12, .inl t_joy)), (q_bars, .inl (C 0, 12, .inl t_bars)), (q_needs, .inl (C 0, 12, .inl t_needs))]) [0, 1, 2, 3, 4, 5] rfl
    have hD9 := hD.sub (ws' := [(q, .inr (8, [.int t_items, .int t_capacity, .int t_limit, .int t_mustSet, .int t_neverSet, .int t_hand, .ref q_weight, .ref q_gain, .ref q_joy, .ref q_bars, .ref q_needs])), (q_weight, .inl (C 0, 12, .inl t_weight)), (q_gain, .inl (C 0, 12, .inl t_gain)), (q_joy, .inl (C 0, 12, .inl t_joy)), (q_bars, .inl (C 0, 12, .inl t_bars)), (q_needs, .inl (C 0, 12, .inl t_needs))]) [0, 1, 2, 3, 4, 5] (by decide) rfl
    exact W.vret hx hb hr (fun t ht hW => ⟨⟨(t_items, t_weight, t_gain, t_joy, t_bars, t_needs), rfl, hwp, by rw [ht]; exact hP9, va_K.moved hW.alike hK, hD9⟩, hS.F ht⟩) hS.2.2 dX8_addLast_69
  · have hwp := hwp.2 c6
    refine lv_aload_n hx hb dX8_addLast_9 rfl (lv_at hl 0 rfl) ?_
    refine va_get (D := D) (ci := 8) (v := .ref q_weight) (C := RX8) (T := TX8) (N := 11) hx hb hts iwX8 hown hK hP 0 rfl rfl 6 (by decide) (hts (.fieldLink RX8 18 "ParetoDesk$Setup" "weight" "[I") wd_184) (fun _ h9 => h9) rfl dX8_addLast_10 ?_
    refine lv_aload_n hx hb dX8_addLast_13 rfl (lv_at hl 0 rfl) ?_
    refine va_get (D := D) (ci := 8) (v := .int t_items) (C := RX8) (T := TX8) (N := 11) hx hb hts iwX8 hown hK hP 0 rfl rfl 0 (by decide) (hts (.fieldLink RX8 34 "ParetoDesk$Setup" "items" "I") wd_160) (fun _ h9 => h9) rfl dX8_addLast_14 ?_
    refine lv_iload_n hx hb dX8_addLast_17 rfl (lv_at hl 1 rfl) ?_
    obtain ⟨hi18, hwp⟩ := hwp
    refine va_iast (D := D) hx hb hK hP hD hS 1 0 rfl rfl hi18 dX8_addLast_18 (fun H locs hP hD hS => ?_)
    have hP : va_P D vwCl [(q, .inr (8, [.int t_items, .int t_capacity, .int t_limit, .int t_mustSet, .int t_neverSet, .int t_hand, .ref q_weight, .ref q_gain, .ref q_joy, .ref q_bars, .ref q_needs])), (q_weight, .inl (C 0, 12, .inl (upd t_weight t_items.toNatClampNeg p1))), (q_gain, .inl (C 0, 12, .inl t_gain)), (q_joy, .inl (C 0, 12, .inl t_joy)), (q_bars, .inl (C 0, 12, .inl t_bars)), (q_needs, .inl (C 0, 12, .inl t_needs))] H := hP
    have hD : va_D A [(q, .inr (8, [.int t_items, .int t_capacity, .int t_limit, .int t_mustSet, .int t_neverSet, .int t_hand, .ref q_weight, .ref q_gain, .ref q_joy, .ref q_bars, .ref q_needs])), (q_weight, .inl (C 0, 12, .inl (upd t_weight t_items.toNatClampNeg p1))), (q_gain, .inl (C 0, 12, .inl t_gain)), (q_joy, .inl (C 0, 12, .inl t_joy)), (q_bars, .inl (C 0, 12, .inl t_bars)), (q_needs, .inl (C 0, 12, .inl t_needs))] := hD
    refine lv_aload_n hx hb dX8_addLast_19 rfl (lv_at hl 0 rfl) ?_
    refine va_get (D := D) (ci := 8) (v := .ref q_gain) (C := RX8) (T := TX8) (N := 11) hx hb hts iwX8 hown hK hP 0 rfl rfl 7 (by decide) (hts (.fieldLink RX8 22 "ParetoDesk$Setup" "gain" "[I") wd_187) (fun _ h9 => h9) rfl dX8_addLast_20 ?_
    refine lv_aload_n hx hb dX8_addLast_23 rfl (lv_at hl 0 rfl) ?_
    refine va_get (D := D) (ci := 8) (v := .int t_items) (C := RX8) (T := TX8) (N := 11) hx hb hts iwX8 hown hK hP 0 rfl rfl 0 (by decide) (hts (.fieldLink RX8 34 "ParetoDesk$Setup" "items" "I") wd_160) (fun _ h9 => h9) rfl dX8_addLast_24 ?_
    refine lv_iload_n hx hb dX8_addLast_27 rfl (lv_at hl 2 rfl) ?_
    obtain ⟨hi28, hwp⟩ := hwp
    refine va_iast (D := D) hx hb hK hP hD hS 2 0 rfl rfl hi28 dX8_addLast_28 (fun H locs hP hD hS => ?_)
    have hP : va_P D vwCl [(q, .inr (8, [.int t_items, .int t_capacity, .int t_limit, .int t_mustSet, .int t_neverSet, .int t_hand, .ref q_weight, .ref q_gain, .ref q_joy, .ref q_bars, .ref q_needs])), (q_weight, .inl (C 0, 12, .inl (upd t_weight t_items.toNatClampNeg p1))), (q_gain, .inl (C 0, 12, .inl (upd t_gain t_items.toNatClampNeg p2))), (q_joy, .inl (C 0, 12, .inl t_joy)), (q_bars, .inl (C 0, 12, .inl t_bars)), (q_needs, .inl (C 0, 12, .inl t_needs))] H := hP
    have hD : va_D A [(q, .inr (8, [.int t_items, .int t_capacity, .int t_limit, .int t_mustSet, .int t_neverSet, .int t_hand, .ref q_weight, .ref q_gain, .ref q_joy, .ref q_bars, .ref q_needs])), (q_weight, .inl (C 0, 12, .inl (upd t_weight t_items.toNatClampNeg p1))), (q_gain, .inl (C 0, 12, .inl (upd t_gain t_items.toNatClampNeg p2))), (q_joy, .inl (C 0, 12, .inl t_joy)), (q_bars, .inl (C 0, 12, .inl t_bars)), (q_needs, .inl (C 0, 12, .inl t_needs))] := hD
    refine lv_aload_n hx hb dX8_addLast_29 rfl (lv_at hl 0 rfl) ?_
    refine va_get (D := D) (ci := 8) (v := .ref q_joy) (C := RX8) (T := TX8) (N := 11) hx hb hts iwX8 hown hK hP 0 rfl rfl 8 (by decide) (hts (.fieldLink RX8 25 "ParetoDesk$Setup" "joy" "[I") wd_190) (fun _ h9 => h9) rfl dX8_addLast_30 ?_
    refine lv_aload_n hx hb dX8_addLast_33 rfl (lv_at hl 0 rfl) ?_
    refine va_get (D := D) (ci := 8) (v := .int t_items) (C := RX8) (T := TX8) (N := 11) hx hb hts iwX8 hown hK hP 0 rfl rfl 0 (by decide) (hts (.fieldLink RX8 34 "ParetoDesk$Setup" "items" "I") wd_160) (fun _ h9 => h9) rfl dX8_addLast_34 ?_
    refine lv_iload_n hx hb dX8_addLast_37 rfl (lv_at hl 3 rfl) ?_
    obtain ⟨hi38, hwp⟩ := hwp
    refine va_iast (D := D) hx hb hK hP hD hS 3 0 rfl rfl hi38 dX8_addLast_38 (fun H locs hP hD hS => ?_)
    have hP : va_P D vwCl [(q, .inr (8, [.int t_items, .int t_capacity, .int t_limit, .int t_mustSet, .int t_neverSet, .int t_hand, .ref q_weight, .ref q_gain, .ref q_joy, .ref q_bars, .ref q_needs])), (q_weight, .inl (C 0, 12, .inl (upd t_weight t_items.toNatClampNeg p1))), (q_gain, .inl (C 0, 12, .inl (upd t_gain t_items.toNatClampNeg p2))), (q_joy, .inl (C 0, 12, .inl (upd t_joy t_items.toNatClampNeg p3))), (q_bars, .inl (C 0, 12, .inl t_bars)), (q_needs, .inl (C 0, 12, .inl t_needs))] H := hP
    have hD : va_D A [(q, .inr (8, [.int t_items, .int t_capacity, .int t_limit, .int t_mustSet, .int t_neverSet, .int t_hand, .ref q_weight, .ref q_gain, .ref q_joy, .ref q_bars, .ref q_needs])), (q_weight, .inl (C 0, 12, .inl (upd t_weight t_items.toNatClampNeg p1))), (q_gain, .inl (C 0, 12, .inl (upd t_gain t_items.toNatClampNeg p2))), (q_joy, .inl (C 0, 12, .inl (upd t_joy t_items.toNatClampNeg p3))), (q_bars, .inl (C 0, 12, .inl t_bars)), (q_needs, .inl (C 0, 12, .inl t_needs))] := hD
    refine lv_aload_n hx hb dX8_addLast_39 rfl (lv_at hl 0 rfl) ?_
    refine va_get (D := D) (ci := 8) (v := .ref q_bars) (C := RX8) (T := TX8) (N := 11) hx hb hts iwX8 hown hK hP 0 rfl rfl 9 (by decide) (hts (.fieldLink RX8 28 "ParetoDesk$Setup" "bars" "[I") wd_193) (fun _ h9 => h9) rfl dX8_addLast_40 ?_
    refine lv_aload_n hx hb dX8_addLast_43 rfl (lv_at hl 0 rfl) ?_
    refine va_get (D := D) (ci := 8) (v := .int t_items) (C := RX8) (T := TX8) (N := 11) hx hb hts iwX8 hown hK hP 0 rfl rfl 0 (by decide) (hts (.fieldLink RX8 34 "ParetoDesk$Setup" "items" "I") wd_160) (fun _ h9 => h9) rfl dX8_addLast_44 ?_
    refine lv_iconst (v := 0) hx hb dX8_addLast_47 (by decide) ?_
    obtain ⟨hi48, hwp⟩ := hwp
    refine va_iast (D := D) hx hb hK hP hD hS 4 0 rfl rfl hi48 dX8_addLast_48 (fun H locs hP hD hS => ?_)
    have hP : va_P D vwCl [(q, .inr (8, [.int t_items, .int t_capacity, .int t_limit, .int t_mustSet, .int t_neverSet, .int t_hand, .ref q_weight, .ref q_gain, .ref q_joy, .ref q_bars, .ref q_needs])), (q_weight, .inl (C 0, 12, .inl (upd t_weight t_items.toNatClampNeg p1))), (q_gain, .inl (C 0, 12, .inl (upd t_gain t_items.toNatClampNeg p2))), (q_joy, .inl (C 0, 12, .inl (upd t_joy t_items.toNatClampNeg p3))), (q_bars, .inl (C 0, 12, .inl (upd t_bars t_items.toNatClampNeg (0 : Int32)))), (q_needs, .inl (C 0, 12, .inl t_needs))] H := hP
    have hD : va_D A [(q, .inr (8, [.int t_items, .int t_capacity, .int t_limit, .int t_mustSet, .int t_neverSet, .int t_hand, .ref q_weight, .ref q_gain, .ref q_joy, .ref q_bars, .ref q_needs])), (q_weight, .inl (C 0, 12, .inl (upd t_weight t_items.toNatClampNeg p1))), (q_gain, .inl (C 0, 12, .inl (upd t_gain t_items.toNatClampNeg p2))), (q_joy, .inl (C 0, 12, .inl (upd t_joy t_items.toNatClampNeg p3))), (q_bars, .inl (C 0, 12, .inl (upd t_bars t_items.toNatClampNeg (0 : Int32)))), (q_needs, .inl (C 0, 12, .inl t_needs))] := hD
    refine lv_aload_n hx hb dX8_addLast_49 rfl (lv_at hl 0 rfl) ?_
    refine va_get (D := D) (ci := 8) (v := .ref q_needs) (C := RX8) (T := TX8) (N := 11) hx hb hts iwX8 hown hK hP 0 rfl rfl 10 (by decide) (hts (.fieldLink RX8 31 "ParetoDesk$Setup" "needs" "[I") wd_197) (fun _ h9 => h9) rfl dX8_addLast_50 ?_
    refine lv_aload_n hx hb dX8_addLast_53 rfl (lv_at hl 0 rfl) ?_
    refine va_get (D := D) (ci := 8) (v := .int t_items) (C := RX8) (T := TX8) (N := 11) hx hb hts iwX8 hown hK hP 0 rfl rfl 0 (by decide) (hts (.fieldLink RX8 34 "ParetoDesk$Setup" "items" "I") wd_160) (fun _ h9 => h9) rfl dX8_addLast_54 ?_
    refine lv_iconst (v := 0) hx hb dX8_addLast_57 (by decide) ?_
    obtain ⟨hi58, hwp⟩ := hwp
    refine va_iast (D := D) hx hb hK hP hD hS 5 0 rfl rfl hi58 dX8_addLast_58 (fun H locs hP hD hS => ?_)
    have hP : va_P D vwCl [(q, .inr (8, [.int t_items, .int t_capacity, .int t_limit, .int t_mustSet, .int t_neverSet, .int t_hand, .ref q_weight, .ref q_gain, .ref q_joy, .ref q_bars, .ref q_needs])), (q_weight, .inl (C 0, 12, .inl (upd t_weight t_items.toNatClampNeg p1))), (q_gain, .inl (C 0, 12, .inl (upd t_gain t_items.toNatClampNeg p2))), (q_joy, .inl (C 0, 12, .inl (upd t_joy t_items.toNatClampNeg p3))), (q_bars, .inl (C 0, 12, .inl (upd t_bars t_items.toNatClampNeg (0 : Int32)))), (q_needs, .inl (C 0, 12, .inl (upd t_needs t_items.toNatClampNeg (0 : Int32))))] H := hP
    have hD : va_D A [(q, .inr (8, [.int t_items, .int t_capacity, .int t_limit, .int t_mustSet, .int t_neverSet, .int t_hand, .ref q_weight, .ref q_gain, .ref q_joy, .ref q_bars, .ref q_needs])), (q_weight, .inl (C 0, 12, .inl (upd t_weight t_items.toNatClampNeg p1))), (q_gain, .inl (C 0, 12, .inl (upd t_gain t_items.toNatClampNeg p2))), (q_joy, .inl (C 0, 12, .inl (upd t_joy t_items.toNatClampNeg p3))), (q_bars, .inl (C 0, 12, .inl (upd t_bars t_items.toNatClampNeg (0 : Int32)))), (q_needs, .inl (C 0, 12, .inl (upd t_needs t_items.toNatClampNeg (0 : Int32))))] := hD
    refine lv_aload_n hx hb dX8_addLast_59 rfl (lv_at hl 0 rfl) ?_
    refine lv_dup hx hb dX8_addLast_60 rfl ?_
    refine va_get (D := D) (ci := 8) (v := .int t_items) (C := RX8) (T := TX8) (N := 11) hx hb hts iwX8 hown hK hP 0 rfl rfl 0 (by decide) (hts (.fieldLink RX8 34 "ParetoDesk$Setup" "items" "I") wd_160) (fun _ h9 => h9) rfl dX8_addLast_61 ?_
    refine lv_iconst (v := 1) hx hb dX8_addLast_64 (by decide) ?_
    refine lv_iadd hx hb dX8_addLast_65 ?_
    refine va_put (D := D) (ci := 8) (v := .int (t_items + (1 : Int32))) (ty := .int) (C := RX8) (T := TX8) (N := 11) hx hb hts iwX8 tyX8 tyX8_ok nmX8 hown hK hP hD hS 0 rfl rfl 0 (by decide) (hts (.fieldLink RX8 34 "ParetoDesk$Setup" "items" "I") wd_160) (fun _ h9 => h9) rfl (by decide +kernel) rfl rfl (Nat.le_of_ble_eq_true rfl) dX8_addLast_66 (fun H locs hP hD hS => ?_)
    have hP : va_P D vwCl [(q, .inr (8, [.int (t_items + (1 : Int32)), .int t_capacity, .int t_limit, .int t_mustSet, .int t_neverSet, .int t_hand, .ref q_weight, .ref q_gain, .ref q_joy, .ref q_bars, .ref q_needs])), (q_weight, .inl (C 0, 12, .inl (upd t_weight t_items.toNatClampNeg p1))), (q_gain, .inl (C 0, 12, .inl (upd t_gain t_items.toNatClampNeg p2))), (q_joy, .inl (C 0, 12, .inl (upd t_joy t_items.toNatClampNeg p3))), (q_bars, .inl (C 0, 12, .inl (upd t_bars t_items.toNatClampNeg (0 : Int32)))), (q_needs, .inl (C 0, 12, .inl (upd t_needs t_items.toNatClampNeg (0 : Int32))))] H := hP
    have hD : va_D A [(q, .inr (8, [.int (t_items + (1 : Int32)), .int t_capacity, .int t_limit, .int t_mustSet, .int t_neverSet, .int t_hand, .ref q_weight, .ref q_gain, .ref q_joy, .ref q_bars, .ref q_needs])), (q_weight, .inl (C 0, 12, .inl (upd t_weight t_items.toNatClampNeg p1))), (q_gain, .inl (C 0, 12, .inl (upd t_gain t_items.toNatClampNeg p2))), (q_joy, .inl (C 0, 12, .inl (upd t_joy t_items.toNatClampNeg p3))), (q_bars, .inl (C 0, 12, .inl (upd t_bars t_items.toNatClampNeg (0 : Int32)))), (q_needs, .inl (C 0, 12, .inl (upd t_needs t_items.toNatClampNeg (0 : Int32))))] := hD
    have hP9 := hP.sub (ws' := [(q, .inr (8, [.int (t_items + (1 : Int32)), .int t_capacity, .int t_limit, .int t_mustSet, .int t_neverSet, .int t_hand, .ref q_weight, .ref q_gain, .ref q_joy, .ref q_bars, .ref q_needs])), (q_weight, .inl (C 0, 12, .inl (upd t_weight t_items.toNatClampNeg p1))), (q_gain, .inl (C 0, 12, .inl (upd t_gain t_items.toNatClampNeg p2))), (q_joy, .inl (C 0, 12, .inl (upd t_joy t_items.toNatClampNeg p3))), (q_bars, .inl (C 0, 12, .inl (upd t_bars t_items.toNatClampNeg (0 : Int32)))), (q_needs, .inl (C 0, 12, .inl (upd t_needs t_items.toNatClampNeg (0 : Int32))))]) [0, 1, 2, 3, 4, 5] rfl
    have hD9 := hD.sub (ws' := [(q, .inr (8, [.int (t_items + (1 : Int32)), .int t_capacity, .int t_limit, .int t_mustSet, .int t_neverSet, .int t_hand, .ref q_weight, .ref q_gain, .ref q_joy, .ref q_bars, .ref q_needs])), (q_weight, .inl (C 0, 12, .inl (upd t_weight t_items.toNatClampNeg p1))), (q_gain, .inl (C 0, 12, .inl (upd t_gain t_items.toNatClampNeg p2))), (q_joy, .inl (C 0, 12, .inl (upd t_joy t_items.toNatClampNeg p3))), (q_bars, .inl (C 0, 12, .inl (upd t_bars t_items.toNatClampNeg (0 : Int32)))), (q_needs, .inl (C 0, 12, .inl (upd t_needs t_items.toNatClampNeg (0 : Int32))))]) [0, 1, 2, 3, 4, 5] (by decide) rfl
    exact W.vret hx hb hr (fun t ht hW => ⟨⟨(t_items + (1 : Int32), upd t_weight t_items.toNatClampNeg p1, upd t_gain t_items.toNatClampNeg p2, upd t_joy t_items.toNatClampNeg p3, upd t_bars t_items.toNatClampNeg (0 : Int32), upd t_needs t_items.toNatClampNeg (0 : Int32)), rfl, hwp, by rw [ht]; exact hP9, va_K.moved hW.alike hK, hD9⟩, hS.F ht⟩) hS.2.2 dX8_addLast_69
abbrev ws_X8_withoutPlace : List Cond := .code yX8_withoutPlace cX8_withoutPlace 4 (some .int) :: WALL
abbrev rm_X8_withoutPlace : Room := { frames := 0, cells := 0, slots := 0, locals := 0 }
abbrev w_X8_withoutPlace (C : Nat → ClassId) : va_W := []
abbrev q_X8_withoutPlace (D : va_G) (C : Nat → ClassId) (Q : Int32 → Prop) (A : Nat → Prop) : Array Value → State → Outcome → State → Prop := va_Qi (fun (r : Int32) (u : Unit) => Q r) (fun (u : Unit) (t : State) => va_P D vwCl (w_X8_withoutPlace C ) t.heap ∧ va_K D vwCl (tyL C) t ∧ va_D A (w_X8_withoutPlace C )) A
set_option maxHeartbeats 4000000 in
set_option maxRecDepth 100000 in
theorem met_X8_withoutPlace (l : Launch) (D : va_G) (C : Nat → ClassId) (p0 : Int32) (p1 : Int32) (sz : Nat) (Q : Int32 → Prop) (hwp : wp_X8_withoutPlace p0 p1 Q) : Met l yX8_withoutPlace ws_X8_withoutPlace rm_X8_withoutPlace (va_Pc [.int p0, .int p1] (fun U => U.heap.size = sz ∧ va_P D vwCl (w_X8_withoutPlace C ) U.heap ∧ va_K D vwCl (tyL C) U ∧ va_D (fun _ => True) (w_X8_withoutPlace C ))) (q_X8_withoutPlace D C  Q (va_A (w_X8_withoutPlace C ) sz)) 0 0 (va_A (w_X8_withoutPlace C ) sz) := by
  refine Met.ofW (cc := cX8_withoutPlace) (maxL := 4) (ret := (some .int)) (by decide) rfl ?_
  intro p e s m args below meth c s₁ B hml hv
  obtain ⟨rfl, hsz, hP, hK, hD0⟩ := hv
  have hx := B.exec
  have hb := B.bytes
  have hr := B.returns
  have hts : ∀ w ∈ WALL, w.before _ s = true := fun w h => atoms_spec (ws := ws_X8_withoutPlace) B.pre w (List.mem_cons_of_mem _ h)
  have hown : s.vm.findClass RX8 = some m.cls := findClass_of_methodNamed B.named
  have hlocks := B.notSynchronized
  subst hsz
  have hD := hD0.self (sz := s.heap.size)
  generalize hAe : va_A (w_X8_withoutPlace C ) s.heap.size = A at hD ⊢
  have hA : ∀ q : Nat, s.heap.size ≤ q → A q := fun q h => by rw [← hAe]; exact Or.inr h
  have hS : va_S A s.heap s.heap [] := va_S.rf
  have hl := lv_entry ([.int p0, .int p1]) (n := 4) (Nat.le_of_ble_eq_true rfl)
  rw [lg_entry_eq]
  generalize (lg_sl ([.int p0, .int p1]) ++ List.replicate (4 - (lg_sl ([.int p0, .int p1])).length) Slot.unset).toArray = ls at hl ⊢
  have hl : lv_has ls 4 [(0, .int p0), (1, .int p1)] := hl
  unfold wp_X8_withoutPlace at hwp
  obtain ⟨H, hH⟩ : ∃ H, H = s.heap := ⟨_, rfl⟩
  obtain ⟨locs, hlo⟩ : ∃ z : List Loc, z = [] := ⟨_, rfl⟩
  have hP : va_P D vwCl [] H := by rw [hH]; exact hP
  have hD : va_D A [] := hD
  have hS : va_S A s.heap H locs := by rw [hH, hlo]; exact hS
  suffices K : W p l e (headSpec ws_X8_withoutPlace rm_X8_withoutPlace).room s m ([.int p0, .int p1] : List Value).toArray below meth c H locs 0 0 (MQ below (q_X8_withoutPlace D C Q A) ([.int p0, .int p1] : List Value).toArray s 0 0 A) (F0 m 0 ls []) from by rw [hH, hlo] at K; exact K
  refine lv_iload_n hx hb dX8_withoutPlace_0 rfl (lv_at hl 0 rfl) ?_
  refine lv_iconst (v := 1) hx hb dX8_withoutPlace_1 (by decide) ?_
  refine lv_iload_n hx hb dX8_withoutPlace_2 rfl (lv_at hl 1 rfl) ?_
  refine lv_ishl hx hb dX8_withoutPlace_3 ?_
  refine lv_iconst (v := 1) hx hb dX8_withoutPlace_4 (by decide) ?_
  refine lv_isub hx hb dX8_withoutPlace_5 ?_
  refine lv_iand hx hb dX8_withoutPlace_6 ?_
  refine lv_topi (fun v7 ev7 => ?_)
  have hwp := hwp v7 ev7
  refine lv_istore_n (lv' := [(2, .int v7), (0, .int p0), (1, .int p1)]) hx hb dX8_withoutPlace_7 rfl hl (by decide) rfl (fun ls hl => ?_)
  refine lv_iload_n hx hb dX8_withoutPlace_8 rfl (lv_at hl 1 rfl) ?_
  refine lv_iload_n hx hb dX8_withoutPlace_9 rfl (lv_at hl 2 rfl) ?_
  refine lv_iconst (v := 1) hx hb dX8_withoutPlace_10 (by decide) ?_
  refine lv_iadd hx hb dX8_withoutPlace_11 ?_
  refine lv_ishr hx hb dX8_withoutPlace_12 ?_
  refine lv_iload_n hx hb dX8_withoutPlace_13 rfl (lv_at hl 2 rfl) ?_
  refine lv_ishl hx hb dX8_withoutPlace_14 ?_
  refine lv_topi (fun v15 ev15 => ?_)
  have hwp := hwp v15 ev15
  refine lv_istore_n (lv' := [(3, .int v15), (2, .int v7), (0, .int p0), (1, .int p1)]) hx hb dX8_withoutPlace_15 rfl hl (by decide) rfl (fun ls hl => ?_)
  refine lv_iload_n hx hb dX8_withoutPlace_16 rfl (lv_at hl 1 rfl) ?_
  refine lv_iload_n hx hb dX8_withoutPlace_17 rfl (lv_at hl 0 rfl) ?_
  refine lv_ior hx hb dX8_withoutPlace_18 ?_
  have hP9 := hP.sub (ws' := []) [] rfl
  have hD9 := hD.sub (ws' := []) [] (by decide) rfl
  exact W.iret (v := v7 ||| v15) hx hb hr (fun t ht hW => ⟨⟨v7 ||| v15, (), rfl, hwp, by rw [ht]; exact hP9, va_K.moved hW.alike hK, hD9⟩, hS.F ht⟩) hS.2.2 dX8_withoutPlace_19
abbrev ws_X8_drop : List Cond := .code yX8_drop cX8_drop 3 none :: WALL
theorem gc_X8_58 : GoodIn WALL (va_wsS RX8 58 yX8_withoutPlace ws_X8_withoutPlace) := gc_s wd_1347 wd_1348 wd_115 wd_1349
abbrev rm_X8_drop : Room := { frames := 1, cells := 0, slots := 0, locals := 23 }
abbrev w_X8_drop (C : Nat → ClassId) (q : Nat) (q_weight : Nat) (q_gain : Nat) (q_joy : Nat) (q_bars : Nat) (q_needs : Nat) (t_items : Int32) (t_capacity : Int32) (t_limit : Int32) (t_mustSet : Int32) (t_neverSet : Int32) (t_hand : Int32) (t_weight : Nat → Int32) (t_gain : Nat → Int32) (t_joy : Nat → Int32) (t_bars : Nat → Int32) (t_needs : Nat → Int32) : va_W := [(q, .inr (8, [.int t_items, .int t_capacity, .int t_limit, .int t_mustSet, .int t_neverSet, .int t_hand, .ref q_weight, .ref q_gain, .ref q_joy, .ref q_bars, .ref q_needs])), (q_weight, .inl (C 0, 12, .inl t_weight)), (q_gain, .inl (C 0, 12, .inl t_gain)), (q_joy, .inl (C 0, 12, .inl t_joy)), (q_bars, .inl (C 0, 12, .inl t_bars)), (q_needs, .inl (C 0, 12, .inl t_needs))]
abbrev q_X8_drop (D : va_G) (C : Nat → ClassId) (q : Nat) (q_weight : Nat) (q_gain : Nat) (q_joy : Nat) (q_bars : Nat) (q_needs : Nat) (t_capacity : Int32) (t_limit : Int32) (Q : Int32 → Int32 → Int32 → Int32 → (Nat → Int32) → (Nat → Int32) → (Nat → Int32) → (Nat → Int32) → (Nat → Int32) → Prop) (A : Nat → Prop) : Array Value → State → Outcome → State → Prop := va_Qv (fun (u : Int32 × Int32 × Int32 × Int32 × (Nat → Int32) × (Nat → Int32) × (Nat → Int32) × (Nat → Int32) × (Nat → Int32)) => Q u.1 u.2.1 u.2.2.1 u.2.2.2.1 u.2.2.2.2.1 u.2.2.2.2.2.1 u.2.2.2.2.2.2.1 u.2.2.2.2.2.2.2.1 u.2.2.2.2.2.2.2.2) (fun (u : Int32 × Int32 × Int32 × Int32 × (Nat → Int32) × (Nat → Int32) × (Nat → Int32) × (Nat → Int32) × (Nat → Int32)) (t : State) => va_P D vwCl (w_X8_drop C q q_weight q_gain q_joy q_bars q_needs u.1 t_capacity t_limit u.2.1 u.2.2.1 u.2.2.2.1 u.2.2.2.2.1 u.2.2.2.2.2.1 u.2.2.2.2.2.2.1 u.2.2.2.2.2.2.2.1 u.2.2.2.2.2.2.2.2) t.heap ∧ va_K D vwCl (tyL C) t ∧ va_D A (w_X8_drop C q q_weight q_gain q_joy q_bars q_needs u.1 t_capacity t_limit u.2.1 u.2.2.1 u.2.2.2.1 u.2.2.2.2.1 u.2.2.2.2.2.1 u.2.2.2.2.2.2.1 u.2.2.2.2.2.2.2.1 u.2.2.2.2.2.2.2.2)) A
set_option maxHeartbeats 4000000 in
set_option maxRecDepth 100000 in
theorem met_X8_drop (l : Launch) (D : va_G) (C : Nat → ClassId) (q : Nat) (q_weight : Nat) (q_gain : Nat) (q_joy : Nat) (q_bars : Nat) (q_needs : Nat) (p1 : Int32) (t_items : Int32) (t_capacity : Int32) (t_limit : Int32) (t_mustSet : Int32) (t_neverSet : Int32) (t_hand : Int32) (t_weight : Nat → Int32) (t_gain : Nat → Int32) (t_joy : Nat → Int32) (t_bars : Nat → Int32) (t_needs : Nat → Int32) (sz : Nat) (Q : Int32 → Int32 → Int32 → Int32 → (Nat → Int32) → (Nat → Int32) → (Nat → Int32) → (Nat → Int32) → (Nat → Int32) → Prop) (hwp : wp_X8_drop p1 t_items t_mustSet t_neverSet t_hand t_weight t_gain t_joy t_bars t_needs Q) : Met l yX8_drop ws_X8_drop rm_X8_drop (va_Pc [.ref q, .int p1] (fun U => U.heap.size = sz ∧ va_P D vwCl (w_X8_drop C q q_weight q_gain q_joy q_bars q_needs t_items t_capacity t_limit t_mustSet t_neverSet t_hand t_weight t_gain t_joy t_bars t_needs) U.heap ∧ va_K D vwCl (tyL C) U ∧ va_D (fun _ => True) (w_X8_drop C q q_weight q_gain q_joy q_bars q_needs t_items t_capacity t_limit t_mustSet t_neverSet t_hand t_weight t_gain t_joy t_bars t_needs))) (q_X8_drop D C q q_weight q_gain q_joy q_bars q_needs t_capacity t_limit Q (va_A (w_X8_drop C q q_weight q_gain q_joy q_bars q_needs t_items t_capacity t_limit t_mustSet t_neverSet t_hand t_weight t_gain t_joy t_bars t_needs) sz)) 0 0 (va_A (w_X8_drop C q q_weight q_gain q_joy q_bars q_needs t_items t_capacity t_limit t_mustSet t_neverSet t_hand t_weight t_gain t_joy t_bars t_needs) sz) := by
  refine Met.ofW (cc := cX8_drop) (maxL := 3) (ret := none) (by decide) rfl ?_
  intro p e s m args below meth c s₁ B hml hv
  obtain ⟨rfl, hsz, hP, hK, hD0⟩ := hv
  have hx := B.exec
  have hb := B.bytes
  have hr := B.returns
  have hts : ∀ w ∈ WALL, w.before _ s = true := fun w h => atoms_spec (ws := ws_X8_drop) B.pre w (List.mem_cons_of_mem _ h)
  have hown : s.vm.findClass RX8 = some m.cls := findClass_of_methodNamed B.named
  have hlocks := B.notSynchronized
  subst hsz
  have hD := hD0.self (sz := s.heap.size)
  generalize hAe : va_A (w_X8_drop C q q_weight q_gain q_joy q_bars q_needs t_items t_capacity t_limit t_mustSet t_neverSet t_hand t_weight t_gain t_joy t_bars t_needs) s.heap.size = A at hD ⊢
  have hA : ∀ q : Nat, s.heap.size ≤ q → A q := fun q h => by rw [← hAe]; exact Or.inr h
  have hS : va_S A s.heap s.heap [] := va_S.rf
  have hl := lv_entry ([.ref q, .int p1]) (n := 3) (Nat.le_of_ble_eq_true rfl)
  rw [lg_entry_eq]
  generalize (lg_sl ([.ref q, .int p1]) ++ List.replicate (3 - (lg_sl ([.ref q, .int p1])).length) Slot.unset).toArray = ls at hl ⊢
  have hl : lv_has ls 3 [(0, .ref q), (1, .int p1)] := hl
  have HL12 : ∀ (x1 : Int32) (t_items : Int32) (t_mustSet : Int32) (t_neverSet : Int32) (t_hand : Int32) (k96 : (Nat → Int32) → (Nat → Int32) → (Nat → Int32) → (Nat → Int32) → (Nat → Int32) → Prop) (hk96 : ∀ (t_weight : Nat → Int32) (t_gain : Nat → Int32) (t_joy : Nat → Int32) (t_bars : Nat → Int32) (t_needs : Nat → Int32) (H : Heap) (locs : List Loc) (ls : Array Slot), lv_has ls 3 [(0, .ref q), (1, .int x1)] → va_P D vwCl [(q, .inr (8, [.int t_items, .int t_capacity, .int t_limit, .int t_mustSet, .int t_neverSet, .int t_hand, .ref q_weight, .ref q_gain, .ref q_joy, .ref q_bars, .ref q_needs])), (q_weight, .inl (C 0, 12, .inl t_weight)), (q_gain, .inl (C 0, 12, .inl t_gain)), (q_joy, .inl (C 0, 12, .inl t_joy)), (q_bars, .inl (C 0, 12, .inl t_bars)), (q_needs, .inl (C 0, 12, .inl t_needs))] H → va_D A [(q, .inr (8, [.int t_items, .int t_capacity, .int t_limit, .int t_mustSet, .int t_neverSet, .int t_hand, .ref q_weight, .ref q_gain, .ref q_joy, .ref q_bars, .ref q_needs])), (q_weight, .inl (C 0, 12, .inl t_weight)), (q_gain, .inl (C 0, 12, .inl t_gain)), (q_joy, .inl (C 0, 12, .inl t_joy)), (q_bars, .inl (C 0, 12, .inl t_bars)), (q_needs, .inl (C 0, 12, .inl t_needs))] → va_S A s.heap H locs → k96 t_weight t_gain t_joy t_bars t_needs → W p l e (headSpec ws_X8_drop rm_X8_drop).room s m ([.ref q, .int p1] : List Value).toArray below meth c H locs 0 0 (MQ below (q_X8_drop D C q q_weight q_gain q_joy q_bars q_needs t_capacity t_limit Q A) ([.ref q, .int p1] : List Value).toArray s 0 0 A) (F0 m 96 ls [])) (n12 : Nat) (x2 : Int32) (t_weight : Nat → Int32) (t_gain : Nat → Int32) (t_joy : Nat → Int32) (t_bars : Nat → Int32) (t_needs : Nat → Int32) (H : Heap) (locs : List Loc) (ls : Array Slot), lv_has ls 3 [(0, .ref q), (1, .int x1), (2, .int x2)] → va_P D vwCl [(q, .inr (8, [.int t_items, .int t_capacity, .int t_limit, .int t_mustSet, .int t_neverSet, .int t_hand, .ref q_weight, .ref q_gain, .ref q_joy, .ref q_bars, .ref q_needs])), (q_weight, .inl (C 0, 12, .inl t_weight)), (q_gain, .inl (C 0, 12, .inl t_gain)), (q_joy, .inl (C 0, 12, .inl t_joy)), (q_bars, .inl (C 0, 12, .inl t_bars)), (q_needs, .inl (C 0, 12, .inl t_needs))] H → va_D A [(q, .inr (8, [.int t_items, .int t_capacity, .int t_limit, .int t_mustSet, .int t_neverSet, .int t_hand, .ref q_weight, .ref q_gain, .ref q_joy, .ref q_bars, .ref q_needs])), (q_weight, .inl (C 0, 12, .inl t_weight)), (q_gain, .inl (C 0, 12, .inl t_gain)), (q_joy, .inl (C 0, 12, .inl t_joy)), (q_bars, .inl (C 0, 12, .inl t_bars)), (q_needs, .inl (C 0, 12, .inl t_needs))] → va_S A s.heap H locs → wp_X8_drop_L12 x1 t_items t_mustSet t_neverSet t_hand k96 Q n12 x2 t_weight t_gain t_joy t_bars t_needs → W p l e (headSpec ws_X8_drop rm_X8_drop).room s m ([.ref q, .int p1] : List Value).toArray below meth c H locs 0 0 (MQ below (q_X8_drop D C q q_weight q_gain q_joy q_bars q_needs t_capacity t_limit Q A) ([.ref q, .int p1] : List Value).toArray s 0 0 A) (F0 m 12 ls []) := by
    intro x1 t_items t_mustSet t_neverSet t_hand k96 hk96 n12
    induction n12 with
    | zero =>
      intro x2 t_weight t_gain t_joy t_bars t_needs H locs ls hl hP hD hS hwp
      exact False.elim hwp
    | succ n12 ih =>
      intro x2 t_weight t_gain t_joy t_bars t_needs H locs ls hl hP hD hS hwp
      unfold wp_X8_drop_L12 at hwp
      refine lv_iload_n hx hb dX8_drop_12 rfl (lv_at hl 2 rfl) ?_
      refine lv_aload_n hx hb dX8_drop_13 rfl (lv_at hl 0 rfl) ?_
      refine va_get (D := D) (ci := 8) (v := .int t_items) (C := RX8) (T := TX8) (N := 11) hx hb hts iwX8 hown hK hP 0 rfl rfl 0 (by decide) (hts (.fieldLink RX8 34 "ParetoDesk$Setup" "items" "I") wd_160) (fun _ h9 => h9) rfl dX8_drop_14 ?_
      refine lv_icmp_ge (tgt := 96) hx hb dX8_drop_17 (by decide) (fun c17 => ?_) (fun c17 => ?_)
      · have hwp := hwp.1 c17
        have hl9 := lv_sub (l' := [(0, .ref q), (1, .int x1)]) hl [0, 1] rfl
        have hP9 := hP.sub (ws' := [(q, .inr (8, [.int t_items, .int t_capacity, .int t_limit, .int t_mustSet, .int t_neverSet, .int t_hand, .ref q_weight, .ref q_gain, .ref q_joy, .ref q_bars, .ref q_needs])), (q_weight, .inl (C 0, 12, .inl t_weight)), (q_gain, .inl (C 0, 12, .inl t_gain)), (q_joy, .inl (C 0, 12, .inl t_joy)), (q_bars, .inl (C 0, 12, .inl t_bars)), (q_needs, .inl (C 0, 12, .inl t_needs))]) [0, 1, 2, 3, 4, 5] rfl
        have hD9 := hD.sub (ws' := [(q, .inr (8, [.int t_items, .int t_capacity, .int t_limit, .int t_mustSet, .int t_neverSet, .int t_hand, .ref q_weight, .ref q_gain, .ref q_joy, .ref q_bars, .ref q_needs])), (q_weight, .inl (C 0, 12, .inl t_weight)), (q_gain, .inl (C 0, 12, .inl t_gain)), (q_joy, .inl (C 0, 12, .inl t_joy)), (q_bars, .inl (C 0, 12, .inl t_bars)), (q_needs, .inl (C 0, 12, .inl t_needs))]) [0, 1, 2, 3, 4, 5] (by decide) rfl
        exact hk96 t_weight t_gain t_joy t_bars t_needs H locs ls hl9 hP9 hD9 hS hwp
      · have hwp := hwp.2 c17
        refine lv_aload_n hx hb dX8_drop_20 rfl (lv_at hl 0 rfl) ?_
        refine va_get (D := D) (ci := 8) (v := .ref q_weight) (C := RX8) (T := TX8) (N := 11) hx hb hts iwX8 hown hK hP 0 rfl rfl 6 (by decide) (hts (.fieldLink RX8 18 "ParetoDesk$Setup" "weight" "[I") wd_184) (fun _ h9 => h9) rfl dX8_drop_21 ?_
        refine lv_iload_n hx hb dX8_drop_24 rfl (lv_at hl 2 rfl) ?_
        refine lv_aload_n hx hb dX8_drop_25 rfl (lv_at hl 0 rfl) ?_
        refine va_get (D := D) (ci := 8) (v := .ref q_weight) (C := RX8) (T := TX8) (N := 11) hx hb hts iwX8 hown hK hP 0 rfl rfl 6 (by decide) (hts (.fieldLink RX8 18 "ParetoDesk$Setup" "weight" "[I") wd_184) (fun _ h9 => h9) rfl dX8_drop_26 ?_
        refine lv_iload_n hx hb dX8_drop_29 rfl (lv_at hl 2 rfl) ?_
        refine lv_iconst (v := 1) hx hb dX8_drop_30 (by decide) ?_
        refine lv_iadd hx hb dX8_drop_31 ?_
        obtain ⟨hi32, hwp⟩ := hwp
        refine va_iald (D := D) hx hb hK hP 1 0 rfl rfl hi32 dX8_drop_32 ?_
        obtain ⟨hi33, hwp⟩ := hwp
        refine va_iast (D := D) hx hb hK hP hD hS 1 0 rfl rfl hi33 dX8_drop_33 (fun H locs hP hD hS => ?_)
        have hP : va_P D vwCl [(q, .inr (8, [.int t_items, .int t_capacity, .int t_limit, .int t_mustSet, .int t_neverSet, .int t_hand, .ref q_weight, .ref q_gain, .ref q_joy, .ref q_bars, .ref q_needs])), (q_weight, .inl (C 0, 12, .inl (upd t_weight x2.toNatClampNeg (t_weight (x2 + (1 : Int32)).toNatClampNeg)))), (q_gain, .inl (C 0, 12, .inl t_gain)), (q_joy, .inl (C 0, 12, .inl t_joy)), (q_bars, .inl (C 0, 12, .inl t_bars)), (q_needs, .inl (C 0, 12, .inl t_needs))] H := hP
        have hD : va_D A [(q, .inr (8, [.int t_items, .int t_capacity, .int t_limit, .int t_mustSet, .int t_neverSet, .int t_hand, .ref q_weight, .ref q_gain, .ref q_joy, .ref q_bars, .ref q_needs])), (q_weight, .inl (C 0, 12, .inl (upd t_weight x2.toNatClampNeg (t_weight (x2 + (1 : Int32)).toNatClampNeg)))), (q_gain, .inl (C 0, 12, .inl t_gain)), (q_joy, .inl (C 0, 12, .inl t_joy)), (q_bars, .inl (C 0, 12, .inl t_bars)), (q_needs, .inl (C 0, 12, .inl t_needs))] := hD
        refine lv_aload_n hx hb dX8_drop_34 rfl (lv_at hl 0 rfl) ?_
        refine va_get (D := D) (ci := 8) (v := .ref q_gain) (C := RX8) (T := TX8) (N := 11) hx hb hts iwX8 hown hK hP 0 rfl rfl 7 (by decide) (hts (.fieldLink RX8 22 "ParetoDesk$Setup" "gain" "[I") wd_187) (fun _ h9 => h9) rfl dX8_drop_35 ?_
        refine lv_iload_n hx hb dX8_drop_38 rfl (lv_at hl 2 rfl) ?_
        refine lv_aload_n hx hb dX8_drop_39 rfl (lv_at hl 0 rfl) ?_
        refine va_get (D := D) (ci := 8) (v := .ref q_gain) (C := RX8) (T := TX8) (N := 11) hx hb hts iwX8 hown hK hP 0 rfl rfl 7 (by decide) (hts (.fieldLink RX8 22 "ParetoDesk$Setup" "gain" "[I") wd_187) (fun _ h9 => h9) rfl dX8_drop_40 ?_
        refine lv_iload_n hx hb dX8_drop_43 rfl (lv_at hl 2 rfl) ?_
        refine lv_iconst (v := 1) hx hb dX8_drop_44 (by decide) ?_
        refine lv_iadd hx hb dX8_drop_45 ?_
        obtain ⟨hi46, hwp⟩ := hwp
        refine va_iald (D := D) hx hb hK hP 2 0 rfl rfl hi46 dX8_drop_46 ?_
        obtain ⟨hi47, hwp⟩ := hwp
        refine va_iast (D := D) hx hb hK hP hD hS 2 0 rfl rfl hi47 dX8_drop_47 (fun H locs hP hD hS => ?_)
        have hP : va_P D vwCl [(q, .inr (8, [.int t_items, .int t_capacity, .int t_limit, .int t_mustSet, .int t_neverSet, .int t_hand, .ref q_weight, .ref q_gain, .ref q_joy, .ref q_bars, .ref q_needs])), (q_weight, .inl (C 0, 12, .inl (upd t_weight x2.toNatClampNeg (t_weight (x2 + (1 : Int32)).toNatClampNeg)))), (q_gain, .inl (C 0, 12, .inl (upd t_gain x2.toNatClampNeg (t_gain (x2 + (1 : Int32)).toNatClampNeg)))), (q_joy, .inl (C 0, 12, .inl t_joy)), (q_bars, .inl (C 0, 12, .inl t_bars)), (q_needs, .inl (C 0, 12, .inl t_needs))] H := hP
        have hD : va_D A [(q, .inr (8, [.int t_items, .int t_capacity, .int t_limit, .int t_mustSet, .int t_neverSet, .int t_hand, .ref q_weight, .ref q_gain, .ref q_joy, .ref q_bars, .ref q_needs])), (q_weight, .inl (C 0, 12, .inl (upd t_weight x2.toNatClampNeg (t_weight (x2 + (1 : Int32)).toNatClampNeg)))), (q_gain, .inl (C 0, 12, .inl (upd t_gain x2.toNatClampNeg (t_gain (x2 + (1 : Int32)).toNatClampNeg)))), (q_joy, .inl (C 0, 12, .inl t_joy)), (q_bars, .inl (C 0, 12, .inl t_bars)), (q_needs, .inl (C 0, 12, .inl t_needs))] := hD
        refine lv_aload_n hx hb dX8_drop_48 rfl (lv_at hl 0 rfl) ?_
        refine va_get (D := D) (ci := 8) (v := .ref q_joy) (C := RX8) (T := TX8) (N := 11) hx hb hts iwX8 hown hK hP 0 rfl rfl 8 (by decide) (hts (.fieldLink RX8 25 "ParetoDesk$Setup" "joy" "[I") wd_190) (fun _ h9 => h9) rfl dX8_drop_49 ?_
        refine lv_iload_n hx hb dX8_drop_52 rfl (lv_at hl 2 rfl) ?_
        refine lv_aload_n hx hb dX8_drop_53 rfl (lv_at hl 0 rfl) ?_
        refine va_get (D := D) (ci := 8) (v := .ref q_joy) (C := RX8) (T := TX8) (N := 11) hx hb hts iwX8 hown hK hP 0 rfl rfl 8 (by decide) (hts (.fieldLink RX8 25 "ParetoDesk$Setup" "joy" "[I") wd_190) (fun _ h9 => h9) rfl dX8_drop_54 ?_
        refine lv_iload_n hx hb dX8_drop_57 rfl (lv_at hl 2 rfl) ?_
        refine lv_iconst (v := 1) hx hb dX8_drop_58 (by decide) ?_
        refine lv_iadd hx hb dX8_drop_59 ?_
        obtain ⟨hi60, hwp⟩ := hwp
        refine va_iald (D := D) hx hb hK hP 3 0 rfl rfl hi60 dX8_drop_60 ?_
        obtain ⟨hi61, hwp⟩ := hwp
        refine va_iast (D := D) hx hb hK hP hD hS 3 0 rfl rfl hi61 dX8_drop_61 (fun H locs hP hD hS => ?_)
        have hP : va_P D vwCl [(q, .inr (8, [.int t_items, .int t_capacity, .int t_limit, .int t_mustSet, .int t_neverSet, .int t_hand, .ref q_weight, .ref q_gain, .ref q_joy, .ref q_bars, .ref q_needs])), (q_weight, .inl (C 0, 12, .inl (upd t_weight x2.toNatClampNeg (t_weight (x2 + (1 : Int32)).toNatClampNeg)))), (q_gain, .inl (C 0, 12, .inl (upd t_gain x2.toNatClampNeg (t_gain (x2 + (1 : Int32)).toNatClampNeg)))), (q_joy, .inl (C 0, 12, .inl (upd t_joy x2.toNatClampNeg (t_joy (x2 + (1 : Int32)).toNatClampNeg)))), (q_bars, .inl (C 0, 12, .inl t_bars)), (q_needs, .inl (C 0, 12, .inl t_needs))] H := hP
        have hD : va_D A [(q, .inr (8, [.int t_items, .int t_capacity, .int t_limit, .int t_mustSet, .int t_neverSet, .int t_hand, .ref q_weight, .ref q_gain, .ref q_joy, .ref q_bars, .ref q_needs])), (q_weight, .inl (C 0, 12, .inl (upd t_weight x2.toNatClampNeg (t_weight (x2 + (1 : Int32)).toNatClampNeg)))), (q_gain, .inl (C 0, 12, .inl (upd t_gain x2.toNatClampNeg (t_gain (x2 + (1 : Int32)).toNatClampNeg)))), (q_joy, .inl (C 0, 12, .inl (upd t_joy x2.toNatClampNeg (t_joy (x2 + (1 : Int32)).toNatClampNeg)))), (q_bars, .inl (C 0, 12, .inl t_bars)), (q_needs, .inl (C 0, 12, .inl t_needs))] := hD
        refine lv_aload_n hx hb dX8_drop_62 rfl (lv_at hl 0 rfl) ?_
        refine va_get (D := D) (ci := 8) (v := .ref q_bars) (C := RX8) (T := TX8) (N := 11) hx hb hts iwX8 hown hK hP 0 rfl rfl 9 (by decide) (hts (.fieldLink RX8 28 "ParetoDesk$Setup" "bars" "[I") wd_193) (fun _ h9 => h9) rfl dX8_drop_63 ?_
        refine lv_iload_n hx hb dX8_drop_66 rfl (lv_at hl 2 rfl) ?_
        refine lv_aload_n hx hb dX8_drop_67 rfl (lv_at hl 0 rfl) ?_
        refine va_get (D := D) (ci := 8) (v := .ref q_bars) (C := RX8) (T := TX8) (N := 11) hx hb hts iwX8 hown hK hP 0 rfl rfl 9 (by decide) (hts (.fieldLink RX8 28 "ParetoDesk$Setup" "bars" "[I") wd_193) (fun _ h9 => h9) rfl dX8_drop_68 ?_
        refine lv_iload_n hx hb dX8_drop_71 rfl (lv_at hl 2 rfl) ?_
        refine lv_iconst (v := 1) hx hb dX8_drop_72 (by decide) ?_
        refine lv_iadd hx hb dX8_drop_73 ?_
        obtain ⟨hi74, hwp⟩ := hwp
        refine va_iald (D := D) hx hb hK hP 4 0 rfl rfl hi74 dX8_drop_74 ?_
        obtain ⟨hi75, hwp⟩ := hwp
        refine va_iast (D := D) hx hb hK hP hD hS 4 0 rfl rfl hi75 dX8_drop_75 (fun H locs hP hD hS => ?_)
        have hP : va_P D vwCl [(q, .inr (8, [.int t_items, .int t_capacity, .int t_limit, .int t_mustSet, .int t_neverSet, .int t_hand, .ref q_weight, .ref q_gain, .ref q_joy, .ref q_bars, .ref q_needs])), (q_weight, .inl (C 0, 12, .inl (upd t_weight x2.toNatClampNeg (t_weight (x2 + (1 : Int32)).toNatClampNeg)))), (q_gain, .inl (C 0, 12, .inl (upd t_gain x2.toNatClampNeg (t_gain (x2 + (1 : Int32)).toNatClampNeg)))), (q_joy, .inl (C 0, 12, .inl (upd t_joy x2.toNatClampNeg (t_joy (x2 + (1 : Int32)).toNatClampNeg)))), (q_bars, .inl (C 0, 12, .inl (upd t_bars x2.toNatClampNeg (t_bars (x2 + (1 : Int32)).toNatClampNeg)))), (q_needs, .inl (C 0, 12, .inl t_needs))] H := hP
        have hD : va_D A [(q, .inr (8, [.int t_items, .int t_capacity, .int t_limit, .int t_mustSet, .int t_neverSet, .int t_hand, .ref q_weight, .ref q_gain, .ref q_joy, .ref q_bars, .ref q_needs])), (q_weight, .inl (C 0, 12, .inl (upd t_weight x2.toNatClampNeg (t_weight (x2 + (1 : Int32)).toNatClampNeg)))), (q_gain, .inl (C 0, 12, .inl (upd t_gain x2.toNatClampNeg (t_gain (x2 + (1 : Int32)).toNatClampNeg)))), (q_joy, .inl (C 0, 12, .inl (upd t_joy x2.toNatClampNeg (t_joy (x2 + (1 : Int32)).toNatClampNeg)))), (q_bars, .inl (C 0, 12, .inl (upd t_bars x2.toNatClampNeg (t_bars (x2 + (1 : Int32)).toNatClampNeg)))), (q_needs, .inl (C 0, 12, .inl t_needs))] := hD
        refine lv_aload_n hx hb dX8_drop_76 rfl (lv_at hl 0 rfl) ?_
        refine va_get (D := D) (ci := 8) (v := .ref q_needs) (C := RX8) (T := TX8) (N := 11) hx hb hts iwX8 hown hK hP 0 rfl rfl 10 (by decide) (hts (.fieldLink RX8 31 "ParetoDesk$Setup" "needs" "[I") wd_197) (fun _ h9 => h9) rfl dX8_drop_77 ?_
        refine lv_iload_n hx hb dX8_drop_80 rfl (lv_at hl 2 rfl) ?_
        refine lv_aload_n hx hb dX8_drop_81 rfl (lv_at hl 0 rfl) ?_
        refine va_get (D := D) (ci := 8) (v := .ref q_needs) (C := RX8) (T := TX8) (N := 11) hx hb hts iwX8 hown hK hP 0 rfl rfl 10 (by decide) (hts (.fieldLink RX8 31 "ParetoDesk$Setup" "needs" "[I") wd_197) (fun _ h9 => h9) rfl dX8_drop_82 ?_
        refine lv_iload_n hx hb dX8_drop_85 rfl (lv_at hl 2 rfl) ?_
        refine lv_iconst (v := 1) hx hb dX8_drop_86 (by decide) ?_
        refine lv_iadd hx hb dX8_drop_87 ?_
        obtain ⟨hi88, hwp⟩ := hwp
        refine va_iald (D := D) hx hb hK hP 5 0 rfl rfl hi88 dX8_drop_88 ?_
        obtain ⟨hi89, hwp⟩ := hwp
        refine va_iast (D := D) hx hb hK hP hD hS 5 0 rfl rfl hi89 dX8_drop_89 (fun H locs hP hD hS => ?_)
        have hP : va_P D vwCl [(q, .inr (8, [.int t_items, .int t_capacity, .int t_limit, .int t_mustSet, .int t_neverSet, .int t_hand, .ref q_weight, .ref q_gain, .ref q_joy, .ref q_bars, .ref q_needs])), (q_weight, .inl (C 0, 12, .inl (upd t_weight x2.toNatClampNeg (t_weight (x2 + (1 : Int32)).toNatClampNeg)))), (q_gain, .inl (C 0, 12, .inl (upd t_gain x2.toNatClampNeg (t_gain (x2 + (1 : Int32)).toNatClampNeg)))), (q_joy, .inl (C 0, 12, .inl (upd t_joy x2.toNatClampNeg (t_joy (x2 + (1 : Int32)).toNatClampNeg)))), (q_bars, .inl (C 0, 12, .inl (upd t_bars x2.toNatClampNeg (t_bars (x2 + (1 : Int32)).toNatClampNeg)))), (q_needs, .inl (C 0, 12, .inl (upd t_needs x2.toNatClampNeg (t_needs (x2 + (1 : Int32)).toNatClampNeg))))] H := hP
        have hD : va_D A [(q, .inr (8, [.int t_items, .int t_capacity, .int t_limit, .int t_mustSet, .int t_neverSet, .int t_hand, .ref q_weight, .ref q_gain, .ref q_joy, .ref q_bars, .ref q_needs])), (q_weight, .inl (C 0, 12, .inl (upd t_weight x2.toNatClampNeg (t_weight (x2 + (1 : Int32)).toNatClampNeg)))), (q_gain, .inl (C 0, 12, .inl (upd t_gain x2.toNatClampNeg (t_gain (x2 + (1 : Int32)).toNatClampNeg)))), (q_joy, .inl (C 0, 12, .inl (upd t_joy x2.toNatClampNeg (t_joy (x2 + (1 : Int32)).toNatClampNeg)))), (q_bars, .inl (C 0, 12, .inl (upd t_bars x2.toNatClampNeg (t_bars (x2 + (1 : Int32)).toNatClampNeg)))), (q_needs, .inl (C 0, 12, .inl (upd t_needs x2.toNatClampNeg (t_needs (x2 + (1 : Int32)).toNatClampNeg))))] := hD
        refine lv_iinc (v := x2 + 1) (lv' := [(2, .int (x2 + 1)), (0, .ref q), (1, .int x1)]) hx hb dX8_drop_90 hl (k := 2) rfl rfl (by decide) rfl (fun ls hl => ?_)
        refine lv_goto (tgt := 12) hx hb dX8_drop_93 (by decide) ?_
        have hl9 := lv_sub (l' := [(0, .ref q), (1, .int x1), (2, .int (x2 + 1))]) hl [1, 2, 0] rfl
        have hP9 := hP.sub (ws' := [(q, .inr (8, [.int t_items, .int t_capacity, .int t_limit, .int t_mustSet, .int t_neverSet, .int t_hand, .ref q_weight, .ref q_gain, .ref q_joy, .ref q_bars, .ref q_needs])), (q_weight, .inl (C 0, 12, .inl (upd t_weight x2.toNatClampNeg (t_weight (x2 + (1 : Int32)).toNatClampNeg)))), (q_gain, .inl (C 0, 12, .inl (upd t_gain x2.toNatClampNeg (t_gain (x2 + (1 : Int32)).toNatClampNeg)))), (q_joy, .inl (C 0, 12, .inl (upd t_joy x2.toNatClampNeg (t_joy (x2 + (1 : Int32)).toNatClampNeg)))), (q_bars, .inl (C 0, 12, .inl (upd t_bars x2.toNatClampNeg (t_bars (x2 + (1 : Int32)).toNatClampNeg)))), (q_needs, .inl (C 0, 12, .inl (upd t_needs x2.toNatClampNeg (t_needs (x2 + (1 : Int32)).toNatClampNeg))))]) [0, 1, 2, 3, 4, 5] rfl
        have hD9 := hD.sub (ws' := [(q, .inr (8, [.int t_items, .int t_capacity, .int t_limit, .int t_mustSet, .int t_neverSet, .int t_hand, .ref q_weight, .ref q_gain, .ref q_joy, .ref q_bars, .ref q_needs])), (q_weight, .inl (C 0, 12, .inl (upd t_weight x2.toNatClampNeg (t_weight (x2 + (1 : Int32)).toNatClampNeg)))), (q_gain, .inl (C 0, 12, .inl (upd t_gain x2.toNatClampNeg (t_gain (x2 + (1 : Int32)).toNatClampNeg)))), (q_joy, .inl (C 0, 12, .inl (upd t_joy x2.toNatClampNeg (t_joy (x2 + (1 : Int32)).toNatClampNeg)))), (q_bars, .inl (C 0, 12, .inl (upd t_bars x2.toNatClampNeg (t_bars (x2 + (1 : Int32)).toNatClampNeg)))), (q_needs, .inl (C 0, 12, .inl (upd t_needs x2.toNatClampNeg (t_needs (x2 + (1 : Int32)).toNatClampNeg))))]) [0, 1, 2, 3, 4, 5] (by decide) rfl
        exact ih (x2 + 1) (upd t_weight x2.toNatClampNeg (t_weight (x2 + (1 : Int32)).toNatClampNeg)) (upd t_gain x2.toNatClampNeg (t_gain (x2 + (1 : Int32)).toNatClampNeg)) (upd t_joy x2.toNatClampNeg (t_joy (x2 + (1 : Int32)).toNatClampNeg)) (upd t_bars x2.toNatClampNeg (t_bars (x2 + (1 : Int32)).toNatClampNeg)) (upd t_needs x2.toNatClampNeg (t_needs (x2 + (1 : Int32)).toNatClampNeg)) H locs ls hl9 hP9 hD9 hS hwp
  have HL98 : ∀ (x1 : Int32) (t_items : Int32) (t_mustSet : Int32) (t_neverSet : Int32) (t_hand : Int32) (t_weight : Nat → Int32) (t_gain : Nat → Int32) (t_joy : Nat → Int32) (k144 : (Nat → Int32) → (Nat → Int32) → Prop) (hk144 : ∀ (t_bars : Nat → Int32) (t_needs : Nat → Int32) (H : Heap) (locs : List Loc) (ls : Array Slot), lv_has ls 3 [(0, .ref q), (1, .int x1)] → va_P D vwCl [(q, .inr (8, [.int t_items, .int t_capacity, .int t_limit, .int t_mustSet, .int t_neverSet, .int t_hand, .ref q_weight, .ref q_gain, .ref q_joy, .ref q_bars, .ref q_needs])), (q_weight, .inl (C 0, 12, .inl t_weight)), (q_gain, .inl (C 0, 12, .inl t_gain)), (q_joy, .inl (C 0, 12, .inl t_joy)), (q_bars, .inl (C 0, 12, .inl t_bars)), (q_needs, .inl (C 0, 12, .inl t_needs))] H → va_D A [(q, .inr (8, [.int t_items, .int t_capacity, .int t_limit, .int t_mustSet, .int t_neverSet, .int t_hand, .ref q_weight, .ref q_gain, .ref q_joy, .ref q_bars, .ref q_needs])), (q_weight, .inl (C 0, 12, .inl t_weight)), (q_gain, .inl (C 0, 12, .inl t_gain)), (q_joy, .inl (C 0, 12, .inl t_joy)), (q_bars, .inl (C 0, 12, .inl t_bars)), (q_needs, .inl (C 0, 12, .inl t_needs))] → va_S A s.heap H locs → k144 t_bars t_needs → W p l e (headSpec ws_X8_drop rm_X8_drop).room s m ([.ref q, .int p1] : List Value).toArray below meth c H locs 0 0 (MQ below (q_X8_drop D C q q_weight q_gain q_joy q_bars q_needs t_capacity t_limit Q A) ([.ref q, .int p1] : List Value).toArray s 0 0 A) (F0 m 144 ls [])) (n98 : Nat) (x2 : Int32) (t_bars : Nat → Int32) (t_needs : Nat → Int32) (H : Heap) (locs : List Loc) (ls : Array Slot), lv_has ls 3 [(0, .ref q), (1, .int x1), (2, .int x2)] → va_P D vwCl [(q, .inr (8, [.int t_items, .int t_capacity, .int t_limit, .int t_mustSet, .int t_neverSet, .int t_hand, .ref q_weight, .ref q_gain, .ref q_joy, .ref q_bars, .ref q_needs])), (q_weight, .inl (C 0, 12, .inl t_weight)), (q_gain, .inl (C 0, 12, .inl t_gain)), (q_joy, .inl (C 0, 12, .inl t_joy)), (q_bars, .inl (C 0, 12, .inl t_bars)), (q_needs, .inl (C 0, 12, .inl t_needs))] H → va_D A [(q, .inr (8, [.int t_items, .int t_capacity, .int t_limit, .int t_mustSet, .int t_neverSet, .int t_hand, .ref q_weight, .ref q_gain, .ref q_joy, .ref q_bars, .ref q_needs])), (q_weight, .inl (C 0, 12, .inl t_weight)), (q_gain, .inl (C 0, 12, .inl t_gain)), (q_joy, .inl (C 0, 12, .inl t_joy)), (q_bars, .inl (C 0, 12, .inl t_bars)), (q_needs, .inl (C 0, 12, .inl t_needs))] → va_S A s.heap H locs → wp_X8_drop_L98 x1 t_items t_mustSet t_neverSet t_hand t_weight t_gain t_joy k144 Q n98 x2 t_bars t_needs → W p l e (headSpec ws_X8_drop rm_X8_drop).room s m ([.ref q, .int p1] : List Value).toArray below meth c H locs 0 0 (MQ below (q_X8_drop D C q q_weight q_gain q_joy q_bars q_needs t_capacity t_limit Q A) ([.ref q, .int p1] : List Value).toArray s 0 0 A) (F0 m 98 ls []) := by
    intro x1 t_items t_mustSet t_neverSet t_hand t_weight t_gain t_joy k144 hk144 n98
    induction n98 with
    | zero =>
      intro x2 t_bars t_needs H locs ls hl hP hD hS hwp
      exact False.elim hwp
    | succ n98 ih =>
      intro x2 t_bars t_needs H locs ls hl hP hD hS hwp
      unfold wp_X8_drop_L98 at hwp
      refine lv_iload_n hx hb dX8_drop_98 rfl (lv_at hl 2 rfl) ?_
      refine lv_aload_n hx hb dX8_drop_99 rfl (lv_at hl 0 rfl) ?_
      refine va_get (D := D) (ci := 8) (v := .int t_items) (C := RX8) (T := TX8) (N := 11) hx hb hts iwX8 hown hK hP 0 rfl rfl 0 (by decide) (hts (.fieldLink RX8 34 "ParetoDesk$Setup" "items" "I") wd_160) (fun _ h9 => h9) rfl dX8_drop_100 ?_
      refine lv_icmp_ge (tgt := 144) hx hb dX8_drop_103 (by decide) (fun c103 => ?_) (fun c103 => ?_)
      · have hwp := hwp.1 c103
        have hl9 := lv_sub (l' := [(0, .ref q), (1, .int x1)]) hl [0, 1] rfl
        have hP9 := hP.sub (ws' := [(q, .inr (8, [.int t_items, .int t_capacity, .int t_limit, .int t_mustSet, .int t_neverSet, .int t_hand, .ref q_weight, .ref q_gain, .ref q_joy, .ref q_bars, .ref q_needs])), (q_weight, .inl (C 0, 12, .inl t_weight)), (q_gain, .inl (C 0, 12, .inl t_gain)), (q_joy, .inl (C 0, 12, .inl t_joy)), (q_bars, .inl (C 0, 12, .inl t_bars)), (q_needs, .inl (C 0, 12, .inl t_needs))]) [0, 1, 2, 3, 4, 5] rfl
        have hD9 := hD.sub (ws' := [(q, .inr (8, [.int t_items, .int t_capacity, .int t_limit, .int t_mustSet, .int t_neverSet, .int t_hand, .ref q_weight, .ref q_gain, .ref q_joy, .ref q_bars, .ref q_needs])), (q_weight, .inl (C 0, 12, .inl t_weight)), (q_gain, .inl (C 0, 12, .inl t_gain)), (q_joy, .inl (C 0, 12, .inl t_joy)), (q_bars, .inl (C 0, 12, .inl t_bars)), (q_needs, .inl (C 0, 12, .inl t_needs))]) [0, 1, 2, 3, 4, 5] (by decide) rfl
        exact hk144 t_bars t_needs H locs ls hl9 hP9 hD9 hS hwp
      · have hwp := hwp.2 c103
        refine lv_aload_n hx hb dX8_drop_106 rfl (lv_at hl 0 rfl) ?_
        refine va_get (D := D) (ci := 8) (v := .ref q_bars) (C := RX8) (T := TX8) (N := 11) hx hb hts iwX8 hown hK hP 0 rfl rfl 9 (by decide) (hts (.fieldLink RX8 28 "ParetoDesk$Setup" "bars" "[I") wd_193) (fun _ h9 => h9) rfl dX8_drop_107 ?_
        refine lv_iload_n hx hb dX8_drop_110 rfl (lv_at hl 2 rfl) ?_
        refine lv_aload_n hx hb dX8_drop_111 rfl (lv_at hl 0 rfl) ?_
        refine va_get (D := D) (ci := 8) (v := .ref q_bars) (C := RX8) (T := TX8) (N := 11) hx hb hts iwX8 hown hK hP 0 rfl rfl 9 (by decide) (hts (.fieldLink RX8 28 "ParetoDesk$Setup" "bars" "[I") wd_193) (fun _ h9 => h9) rfl dX8_drop_112 ?_
        refine lv_iload_n hx hb dX8_drop_115 rfl (lv_at hl 2 rfl) ?_
        obtain ⟨hi116, hwp⟩ := hwp
        refine va_iald (D := D) hx hb hK hP 4 0 rfl rfl hi116 dX8_drop_116 ?_
        refine lv_iload_n hx hb dX8_drop_117 rfl (lv_at hl 1 rfl) ?_
        have hPc := hP.sub (ws' := []) [] rfl
        have hDc := hD.sub (ws' := []) [] (by decide) rfl
        have hFc := va_free (wc := []) hD hS hA [] rfl
        refine va_calli (va_runS (As := [.int (t_bars x2.toNatClampNeg), .int x1]) (rest := [.int x2, .ref q_bars]) ⟨hx, hb, hml, hown, hts⟩ (met_X8_withoutPlace l D C (t_bars x2.toNatClampNeg) x1 H.size _ hwp) (va_cwS 2 hts gc_X8_58 rfl rfl rfl (by decide +kernel) ⟨Nat.le_of_ble_eq_true rfl, Nat.le_of_ble_eq_true rfl⟩) ⟨fun a U g mk q => by obtain ⟨q0, q1, qP, qK, qD⟩ := q; exact ⟨q0, q1, qP, va_K.moved (u := U) (U := U.calling g mk a) (Vm.Alike.refl U.vm) qK, qD⟩, fun U hU hW => ⟨rfl, by rw [hU], by rw [hU]; exact hPc, va_K.moved hW.alike hK, hDc.weaken (fun _ _ _ _ => trivial)⟩⟩ rfl rfl hl.1 rfl (lv_room (Nat.le_of_ble_eq_true rfl)) dX8_drop_118 ⟨Nat.zero_le _, Nat.zero_le _⟩) hS (fun q _ h => hFc q h) hFc (fun r118 u t H1 locs ht hvm hwp hB hz1 hk1 hS => ?_)
        obtain ⟨hP1, -, hD1⟩ := hB
        rw [ht] at hP1
        obtain ⟨hP, hD⟩ := va_join (wr := [(q, .inr (8, [.int t_items, .int t_capacity, .int t_limit, .int t_mustSet, .int t_neverSet, .int t_hand, .ref q_weight, .ref q_gain, .ref q_joy, .ref q_bars, .ref q_needs])), (q_weight, .inl (C 0, 12, .inl t_weight)), (q_gain, .inl (C 0, 12, .inl t_gain)), (q_joy, .inl (C 0, 12, .inl t_joy)), (q_bars, .inl (C 0, 12, .inl t_bars)), (q_needs, .inl (C 0, 12, .inl t_needs))]) (w1 := []) hP hD [] [0, 1, 2, 3, 4, 5] rfl rfl (by decide) (by decide) hk1 hFc hP1 hD1
        generalize H1 = H at hP hS ⊢
        have hP : va_P D vwCl [(q, .inr (8, [.int t_items, .int t_capacity, .int t_limit, .int t_mustSet, .int t_neverSet, .int t_hand, .ref q_weight, .ref q_gain, .ref q_joy, .ref q_bars, .ref q_needs])), (q_weight, .inl (C 0, 12, .inl t_weight)), (q_gain, .inl (C 0, 12, .inl t_gain)), (q_joy, .inl (C 0, 12, .inl t_joy)), (q_bars, .inl (C 0, 12, .inl t_bars)), (q_needs, .inl (C 0, 12, .inl t_needs))] H := hP
        have hD : va_D A [(q, .inr (8, [.int t_items, .int t_capacity, .int t_limit, .int t_mustSet, .int t_neverSet, .int t_hand, .ref q_weight, .ref q_gain, .ref q_joy, .ref q_bars, .ref q_needs])), (q_weight, .inl (C 0, 12, .inl t_weight)), (q_gain, .inl (C 0, 12, .inl t_gain)), (q_joy, .inl (C 0, 12, .inl t_joy)), (q_bars, .inl (C 0, 12, .inl t_bars)), (q_needs, .inl (C 0, 12, .inl t_needs))] := hD
        obtain ⟨hi121, hwp⟩ := hwp
        refine va_iast (D := D) hx hb hK hP hD hS 4 0 rfl rfl hi121 dX8_drop_121 (fun H locs hP hD hS => ?_)
        have hP : va_P D vwCl [(q, .inr (8, [.int t_items, .int t_capacity, .int t_limit, .int t_mustSet, .int t_neverSet, .int t_hand, .ref q_weight, .ref q_gain, .ref q_joy, .ref q_bars, .ref q_needs])), (q_weight, .inl (C 0, 12, .inl t_weight)), (q_gain, .inl (C 0, 12, .inl t_gain)), (q_joy, .inl (C 0, 12, .inl t_joy)), (q_bars, .inl (C 0, 12, .inl (upd t_bars x2.toNatClampNeg r118))), (q_needs, .inl (C 0, 12, .inl t_needs))] H := hP
        have hD : va_D A [(q, .inr (8, [.int t_items, .int t_capacity, .int t_limit, .int t_mustSet, .int t_neverSet, .int t_hand, .ref q_weight, .ref q_gain, .ref q_joy, .ref q_bars, .ref q_needs])), (q_weight, .inl (C 0, 12, .inl t_weight)), (q_gain, .inl (C 0, 12, .inl t_gain)), (q_joy, .inl (C 0, 12, .inl t_joy)), (q_bars, .inl (C 0, 12, .inl (upd t_bars x2.toNatClampNeg r118))), (q_needs, .inl (C 0, 12, .inl t_needs))] := hD
        refine lv_aload_n hx hb dX8_drop_122 rfl (lv_at hl 0 rfl) ?_
        refine va_get (D := D) (ci := 8) (v := .ref q_needs) (C := RX8) (T := TX8) (N := 11) hx hb hts iwX8 hown hK hP 0 rfl rfl 10 (by decide) (hts (.fieldLink RX8 31 "ParetoDesk$Setup" "needs" "[I") wd_197) (fun _ h9 => h9) rfl dX8_drop_123 ?_
        refine lv_iload_n hx hb dX8_drop_126 rfl (lv_at hl 2 rfl) ?_
        refine lv_aload_n hx hb dX8_drop_127 rfl (lv_at hl 0 rfl) ?_
        refine va_get (D := D) (ci := 8) (v := .ref q_needs) (C := RX8) (T := TX8) (N := 11) hx hb hts iwX8 hown hK hP 0 rfl rfl 10 (by decide) (hts (.fieldLink RX8 31 "ParetoDesk$Setup" "needs" "[I") wd_197) (fun _ h9 => h9) rfl dX8_drop_128 ?_
        refine lv_iload_n hx hb dX8_drop_131 rfl (lv_at hl 2 rfl) ?_
        obtain ⟨hi132, hwp⟩ := hwp
        refine va_iald (D := D) hx hb hK hP 5 0 rfl rfl hi132 dX8_drop_132 ?_
        refine lv_iload_n hx hb dX8_drop_133 rfl (lv_at hl 1 rfl) ?_
        have hPc := hP.sub (ws' := []) [] rfl
        have hDc := hD.sub (ws' := []) [] (by decide) rfl
        have hFc := va_free (wc := []) hD hS hA [] rfl
        refine va_calli (va_runS (As := [.int (t_needs x2.toNatClampNeg), .int x1]) (rest := [.int x2, .ref q_needs]) ⟨hx, hb, hml, hown, hts⟩ (met_X8_withoutPlace l D C (t_needs x2.toNatClampNeg) x1 H.size _ hwp) (va_cwS 2 hts gc_X8_58 rfl rfl rfl (by decide +kernel) ⟨Nat.le_of_ble_eq_true rfl, Nat.le_of_ble_eq_true rfl⟩) ⟨fun a U g mk q => by obtain ⟨q0, q1, qP, qK, qD⟩ := q; exact ⟨q0, q1, qP, va_K.moved (u := U) (U := U.calling g mk a) (Vm.Alike.refl U.vm) qK, qD⟩, fun U hU hW => ⟨rfl, by rw [hU], by rw [hU]; exact hPc, va_K.moved hW.alike hK, hDc.weaken (fun _ _ _ _ => trivial)⟩⟩ rfl rfl hl.1 rfl (lv_room (Nat.le_of_ble_eq_true rfl)) dX8_drop_134 ⟨Nat.zero_le _, Nat.zero_le _⟩) hS (fun q _ h => hFc q h) hFc (fun r134 u t H1 locs ht hvm hwp hB hz1 hk1 hS => ?_)
        obtain ⟨hP1, -, hD1⟩ := hB
        rw [ht] at hP1
        obtain ⟨hP, hD⟩ := va_join (wr := [(q, .inr (8, [.int t_items, .int t_capacity, .int t_limit, .int t_mustSet, .int t_neverSet, .int t_hand, .ref q_weight, .ref q_gain, .ref q_joy, .ref q_bars, .ref q_needs])), (q_weight, .inl (C 0, 12, .inl t_weight)), (q_gain, .inl (C 0, 12, .inl t_gain)), (q_joy, .inl (C 0, 12, .inl t_joy)), (q_bars, .inl (C 0, 12, .inl (upd t_bars x2.toNatClampNeg r118))), (q_needs, .inl (C 0, 12, .inl t_needs))]) (w1 := []) hP hD [] [0, 1, 2, 3, 4, 5] rfl rfl (by decide) (by decide) hk1 hFc hP1 hD1
        generalize H1 = H at hP hS ⊢
        have hP : va_P D vwCl [(q, .inr (8, [.int t_items, .int t_capacity, .int t_limit, .int t_mustSet, .int t_neverSet, .int t_hand, .ref q_weight, .ref q_gain, .ref q_joy, .ref q_bars, .ref q_needs])), (q_weight, .inl (C 0, 12, .inl t_weight)), (q_gain, .inl (C 0, 12, .inl t_gain)), (q_joy, .inl (C 0, 12, .inl t_joy)), (q_bars, .inl (C 0, 12, .inl (upd t_bars x2.toNatClampNeg r118))), (q_needs, .inl (C 0, 12, .inl t_needs))] H := hP
        have hD : va_D A [(q, .inr (8, [.int t_items, .int t_capacity, .int t_limit, .int t_mustSet, .int t_neverSet, .int t_hand, .ref q_weight, .ref q_gain, .ref q_joy, .ref q_bars, .ref q_needs])), (q_weight, .inl (C 0, 12, .inl t_weight)), (q_gain, .inl (C 0, 12, .inl t_gain)), (q_joy, .inl (C 0, 12, .inl t_joy)), (q_bars, .inl (C 0, 12, .inl (upd t_bars x2.toNatClampNeg r118))), (q_needs, .inl (C 0, 12, .inl t_needs))] := hD
        obtain ⟨hi137, hwp⟩ := hwp
        refine va_iast (D := D) hx hb hK hP hD hS 5 0 rfl rfl hi137 dX8_drop_137 (fun H locs hP hD hS => ?_)
        have hP : va_P D vwCl [(q, .inr (8, [.int t_items, .int t_capacity, .int t_limit, .int t_mustSet, .int t_neverSet, .int t_hand, .ref q_weight, .ref q_gain, .ref q_joy, .ref q_bars, .ref q_needs])), (q_weight, .inl (C 0, 12, .inl t_weight)), (q_gain, .inl (C 0, 12, .inl t_gain)), (q_joy, .inl (C 0, 12, .inl t_joy)), (q_bars, .inl (C 0, 12, .inl (upd t_bars x2.toNatClampNeg r118))), (q_needs, .inl (C 0, 12, .inl (upd t_needs x2.toNatClampNeg r134)))] H := hP
        have hD : va_D A [(q, .inr (8, [.int t_items, .int t_capacity, .int t_limit, .int t_mustSet, .int t_neverSet, .int t_hand, .ref q_weight, .ref q_gain, .ref q_joy, .ref q_bars, .ref q_needs])), (q_weight, .inl (C 0, 12, .inl t_weight)), (q_gain, .inl (C 0, 12, .inl t_gain)), (q_joy, .inl (C 0, 12, .inl t_joy)), (q_bars, .inl (C 0, 12, .inl (upd t_bars x2.toNatClampNeg r118))), (q_needs, .inl (C 0, 12, .inl (upd t_needs x2.toNatClampNeg r134)))] := hD
        refine lv_iinc (v := x2 + 1) (lv' := [(2, .int (x2 + 1)), (0, .ref q), (1, .int x1)]) hx hb dX8_drop_138 hl (k := 2) rfl rfl (by decide) rfl (fun ls hl => ?_)
        refine lv_goto (tgt := 98) hx hb dX8_drop_141 (by decide) ?_
        have hl9 := lv_sub (l' := [(0, .ref q), (1, .int x1), (2, .int (x2 + 1))]) hl [1, 2, 0] rfl
        have hP9 := hP.sub (ws' := [(q, .inr (8, [.int t_items, .int t_capacity, .int t_limit, .int t_mustSet, .int t_neverSet, .int t_hand, .ref q_weight, .ref q_gain, .ref q_joy, .ref q_bars, .ref q_needs])), (q_weight, .inl (C 0, 12, .inl t_weight)), (q_gain, .inl (C 0, 12, .inl t_gain)), (q_joy, .inl (C 0, 12, .inl t_joy)), (q_bars, .inl (C 0, 12, .inl (upd t_bars x2.toNatClampNeg r118))), (q_needs, .inl (C 0, 12, .inl (upd t_needs x2.toNatClampNeg r134)))]) [0, 1, 2, 3, 4, 5] rfl
        have hD9 := hD.sub (ws' := [(q, .inr (8, [.int t_items, .int t_capacity, .int t_limit, .int t_mustSet, .int t_neverSet, .int t_hand, .ref q_weight, .ref q_gain, .ref q_joy, .ref q_bars, .ref q_needs])), (q_weight, .inl (C 0, 12, .inl t_weight)), (q_gain, .inl (C 0, 12, .inl t_gain)), (q_joy, .inl (C 0, 12, .inl t_joy)), (q_bars, .inl (C 0, 12, .inl (upd t_bars x2.toNatClampNeg r118))), (q_needs, .inl (C 0, 12, .inl (upd t_needs x2.toNatClampNeg r134)))]) [0, 1, 2, 3, 4, 5] (by decide) rfl
        exact ih (x2 + 1) (upd t_bars x2.toNatClampNeg r118) (upd t_needs x2.toNatClampNeg r134) H locs ls hl9 hP9 hD9 hS hwp
  unfold wp_X8_drop at hwp
  obtain ⟨H, hH⟩ : ∃ H, H = s.heap := ⟨_, rfl⟩
  obtain ⟨locs, hlo⟩ : ∃ z : List Loc, z = [] := ⟨_, rfl⟩
  have hP : va_P D vwCl [(q, .inr (8, [.int t_items, .int t_capacity, .int t_limit, .int t_mustSet, .int t_neverSet, .int t_hand, .ref q_weight, .ref q_gain, .ref q_joy, .ref q_bars, .ref q_needs])), (q_weight, .inl (C 0, 12, .inl t_weight)), (q_gain, .inl (C 0, 12, .inl t_gain)), (q_joy, .inl (C 0, 12, .inl t_joy)), (q_bars, .inl (C 0, 12, .inl t_bars)), (q_needs, .inl (C 0, 12, .inl t_needs))] H := by rw [hH]; exact hP
  have hD : va_D A [(q, .inr (8, [.int t_items, .int t_capacity, .int t_limit, .int t_mustSet, .int t_neverSet, .int t_hand, .ref q_weight, .ref q_gain, .ref q_joy, .ref q_bars, .ref q_needs])), (q_weight, .inl (C 0, 12, .inl t_weight)), (q_gain, .inl (C 0, 12, .inl t_gain)), (q_joy, .inl (C 0, 12, .inl t_joy)), (q_bars, .inl (C 0, 12, .inl t_bars)), (q_needs, .inl (C 0, 12, .inl t_needs))] := hD
  have hS : va_S A s.heap H locs := by rw [hH, hlo]; exact hS
  suffices K : W p l e (headSpec ws_X8_drop rm_X8_drop).room s m ([.ref q, .int p1] : List Value).toArray below meth c H locs 0 0 (MQ below (q_X8_drop D C q q_weight q_gain q_joy q_bars q_needs t_capacity t_limit Q A) ([.ref q, .int p1] : List Value).toArray s 0 0 A) (F0 m 0 ls []) from by rw [hH, hlo] at K; exact K
  refine lv_aload_n hx hb dX8_drop_0 rfl (lv_at hl 0 rfl) ?_
  refine lv_dup hx hb dX8_drop_1 rfl ?_
  refine va_get (D := D) (ci := 8) (v := .int t_items) (C := RX8) (T := TX8) (N := 11) hx hb hts iwX8 hown hK hP 0 rfl rfl 0 (by decide) (hts (.fieldLink RX8 34 "ParetoDesk$Setup" "items" "I") wd_160) (fun _ h9 => h9) rfl dX8_drop_2 ?_
  refine lv_iconst (v := 1) hx hb dX8_drop_5 (by decide) ?_
  refine lv_isub hx hb dX8_drop_6 ?_
  refine va_put (D := D) (ci := 8) (v := .int (t_items - (1 : Int32))) (ty := .int) (C := RX8) (T := TX8) (N := 11) hx hb hts iwX8 tyX8 tyX8_ok nmX8 hown hK hP hD hS 0 rfl rfl 0 (by decide) (hts (.fieldLink RX8 34 "ParetoDesk$Setup" "items" "I") wd_160) (fun _ h9 => h9) rfl (by decide +kernel) rfl rfl (Nat.le_of_ble_eq_true rfl) dX8_drop_7 (fun H locs hP hD hS => ?_)
  have hP : va_P D vwCl [(q, .inr (8, [.int (t_items - (1 : Int32)), .int t_capacity, .int t_limit, .int t_mustSet, .int t_neverSet, .int t_hand, .ref q_weight, .ref q_gain, .ref q_joy, .ref q_bars, .ref q_needs])), (q_weight, .inl (C 0, 12, .inl t_weight)), (q_gain, .inl (C 0, 12, .inl t_gain)), (q_joy, .inl (C 0, 12, .inl t_joy)), (q_bars, .inl (C 0, 12, .inl t_bars)), (q_needs, .inl (C 0, 12, .inl t_needs))] H := hP
  have hD : va_D A [(q, .inr (8, [.int (t_items - (1 : Int32)), .int t_capacity, .int t_limit, .int t_mustSet, .int t_neverSet, .int t_hand, .ref q_weight, .ref q_gain, .ref q_joy, .ref q_bars, .ref q_needs])), (q_weight, .inl (C 0, 12, .inl t_weight)), (q_gain, .inl (C 0, 12, .inl t_gain)), (q_joy, .inl (C 0, 12, .inl t_joy)), (q_bars, .inl (C 0, 12, .inl t_bars)), (q_needs, .inl (C 0, 12, .inl t_needs))] := hD
  refine lv_iload_n hx hb dX8_drop_10 rfl (lv_at hl 1 rfl) ?_
  refine lv_istore_n (lv' := [(2, .int p1), (0, .ref q), (1, .int p1)]) hx hb dX8_drop_11 rfl hl (by decide) rfl (fun ls hl => ?_)
  have hl9 := lv_sub (l' := [(0, .ref q), (1, .int p1), (2, .int p1)]) hl [1, 2, 0] rfl
  have hP9 := hP.sub (ws' := [(q, .inr (8, [.int (t_items - (1 : Int32)), .int t_capacity, .int t_limit, .int t_mustSet, .int t_neverSet, .int t_hand, .ref q_weight, .ref q_gain, .ref q_joy, .ref q_bars, .ref q_needs])), (q_weight, .inl (C 0, 12, .inl t_weight)), (q_gain, .inl (C 0, 12, .inl t_gain)), (q_joy, .inl (C 0, 12, .inl t_joy)), (q_bars, .inl (C 0, 12, .inl t_bars)), (q_needs, .inl (C 0, 12, .inl t_needs))]) [0, 1, 2, 3, 4, 5] rfl
  have hD9 := hD.sub (ws' := [(q, .inr (8, [.int (t_items - (1 : Int32)), .int t_capacity, .int t_limit, .int t_mustSet, .int t_neverSet, .int t_hand, .ref q_weight, .ref q_gain, .ref q_joy, .ref q_bars, .ref q_needs])), (q_weight, .inl (C 0, 12, .inl t_weight)), (q_gain, .inl (C 0, 12, .inl t_gain)), (q_joy, .inl (C 0, 12, .inl t_joy)), (q_bars, .inl (C 0, 12, .inl t_bars)), (q_needs, .inl (C 0, 12, .inl t_needs))]) [0, 1, 2, 3, 4, 5] (by decide) rfl
  obtain ⟨nn9, hwp⟩ := hwp
  refine HL12 p1 (t_items - (1 : Int32)) t_mustSet t_neverSet t_hand _ (fun t_weight t_gain t_joy t_bars t_needs H locs ls hl hP hD hS hwp => ?_) nn9 p1 t_weight t_gain t_joy t_bars t_needs H locs ls hl9 hP9 hD9 hS hwp
  refine lv_iconst (v := 0) hx hb dX8_drop_96 (by decide) ?_
  refine lv_istore_n (lv' := [(2, .int (0 : Int32)), (0, .ref q), (1, .int p1)]) hx hb dX8_drop_97 rfl hl (by decide) rfl (fun ls hl => ?_)
  have hl9 := lv_sub (l' := [(0, .ref q), (1, .int p1), (2, .int (0 : Int32))]) hl [1, 2, 0] rfl
  have hP9 := hP.sub (ws' := [(q, .inr (8, [.int (t_items - (1 : Int32)), .int t_capacity, .int t_limit, .int t_mustSet, .int t_neverSet, .int t_hand, .ref q_weight, .ref q_gain, .ref q_joy, .ref q_bars, .ref q_needs])), (q_weight, .inl (C 0, 12, .inl t_weight)), (q_gain, .inl (C 0, 12, .inl t_gain)), (q_joy, .inl (C 0, 12, .inl t_joy)), (q_bars, .inl (C 0, 12, .inl t_bars)), (q_needs, .inl (C 0, 12, .inl t_needs))]) [0, 1, 2, 3, 4, 5] rfl
  have hD9 := hD.sub (ws' := [(q, .inr (8, [.int (t_items - (1 : Int32)), .int t_capacity, .int t_limit, .int t_mustSet, .int t_neverSet, .int t_hand, .ref q_weight, .ref q_gain, .ref q_joy, .ref q_bars, .ref q_needs])), (q_weight, .inl (C 0, 12, .inl t_weight)), (q_gain, .inl (C 0, 12, .inl t_gain)), (q_joy, .inl (C 0, 12, .inl t_joy)), (q_bars, .inl (C 0, 12, .inl t_bars)), (q_needs, .inl (C 0, 12, .inl t_needs))]) [0, 1, 2, 3, 4, 5] (by decide) rfl
  obtain ⟨nn9, hwp⟩ := hwp
  refine HL98 p1 (t_items - (1 : Int32)) t_mustSet t_neverSet t_hand t_weight t_gain t_joy _ (fun t_bars t_needs H locs ls hl hP hD hS hwp => ?_) nn9 (0 : Int32) t_bars t_needs H locs ls hl9 hP9 hD9 hS hwp
  refine lv_aload_n hx hb dX8_drop_144 rfl (lv_at hl 0 rfl) ?_
  refine lv_aload_n hx hb dX8_drop_145 rfl (lv_at hl 0 rfl) ?_
  refine va_get (D := D) (ci := 8) (v := .int t_mustSet) (C := RX8) (T := TX8) (N := 11) hx hb hts iwX8 hown hK hP 0 rfl rfl 3 (by decide) (hts (.fieldLink RX8 43 "ParetoDesk$Setup" "mustSet" "I") wd_174) (fun _ h9 => h9) rfl dX8_drop_146 ?_
  refine lv_iload_n hx hb dX8_drop_149 rfl (lv_at hl 1 rfl) ?_
  have hPc := hP.sub (ws' := []) [] rfl
  have hDc := hD.sub (ws' := []) [] (by decide) rfl
  have hFc := va_free (wc := []) hD hS hA [] rfl
  refine va_calli (va_runS (As := [.int t_mustSet, .int p1]) (rest := [.ref q]) ⟨hx, hb, hml, hown, hts⟩ (met_X8_withoutPlace l D C t_mustSet p1 H.size _ hwp) (va_cwS 2 hts gc_X8_58 rfl rfl rfl (by decide +kernel) ⟨Nat.le_of_ble_eq_true rfl, Nat.le_of_ble_eq_true rfl⟩) ⟨fun a U g mk q => by obtain ⟨q0, q1, qP, qK, qD⟩ := q; exact ⟨q0, q1, qP, va_K.moved (u := U) (U := U.calling g mk a) (Vm.Alike.refl U.vm) qK, qD⟩, fun U hU hW => ⟨rfl, by rw [hU], by rw [hU]; exact hPc, va_K.moved hW.alike hK, hDc.weaken (fun _ _ _ _ => trivial)⟩⟩ rfl rfl hl.1 rfl (lv_room (Nat.le_of_ble_eq_true rfl)) dX8_drop_150 ⟨Nat.zero_le _, Nat.zero_le _⟩) hS (fun q _ h => hFc q h) hFc (fun r150 u t H1 locs ht hvm hwp hB hz1 hk1 hS => ?_)
  obtain ⟨hP1, -, hD1⟩ := hB
  rw [ht] at hP1
  obtain ⟨hP, hD⟩ := va_join (wr := [(q, .inr (8, [.int (t_items - (1 : Int32)), .int t_capacity, .int t_limit, .int t_mustSet, .int t_neverSet, .int t_hand, .ref q_weight, .ref q_gain, .ref q_joy, .ref q_bars, .ref q_needs])), (q_weight, .inl (C 0, 12, .inl t_weight)), (q_gain, .inl (C 0, 12, .inl t_gain)), (q_joy, .inl (C 0, 12, .inl t_joy)), (q_bars, .inl (C 0, 12, .inl t_bars)), (q_needs, .inl (C 0, 12, .inl t_needs))]) (w1 := []) hP hD [] [0, 1, 2, 3, 4, 5] rfl rfl (by decide) (by decide) hk1 hFc hP1 hD1
  generalize H1 = H at hP hS ⊢
  have hP : va_P D vwCl [(q, .inr (8, [.int (t_items - (1 : Int32)), .int t_capacity, .int t_limit, .int t_mustSet, .int t_neverSet, .int t_hand, .ref q_weight, .ref q_gain, .ref q_joy, .ref q_bars, .ref q_needs])), (q_weight, .inl (C 0, 12, .inl t_weight)), (q_gain, .inl (C 0, 12, .inl t_gain)), (q_joy, .inl (C 0, 12, .inl t_joy)), (q_bars, .inl (C 0, 12, .inl t_bars)), (q_needs, .inl (C 0, 12, .inl t_needs))] H := hP
  have hD : va_D A [(q, .inr (8, [.int (t_items - (1 : Int32)), .int t_capacity, .int t_limit, .int t_mustSet, .int t_neverSet, .int t_hand, .ref q_weight, .ref q_gain, .ref q_joy, .ref q_bars, .ref q_needs])), (q_weight, .inl (C 0, 12, .inl t_weight)), (q_gain, .inl (C 0, 12, .inl t_gain)), (q_joy, .inl (C 0, 12, .inl t_joy)), (q_bars, .inl (C 0, 12, .inl t_bars)), (q_needs, .inl (C 0, 12, .inl t_needs))] := hD
  refine va_put (D := D) (ci := 8) (v := .int r150) (ty := .int) (C := RX8) (T := TX8) (N := 11) hx hb hts iwX8 tyX8 tyX8_ok nmX8 hown hK hP hD hS 0 rfl rfl 3 (by decide) (hts (.fieldLink RX8 43 "ParetoDesk$Setup" "mustSet" "I") wd_174) (fun _ h9 => h9) rfl (by decide +kernel) rfl rfl (Nat.le_of_ble_eq_true rfl) dX8_drop_153 (fun H locs hP hD hS => ?_)
  have hP : va_P D vwCl [(q, .inr (8, [.int (t_items - (1 : Int32)), .int t_capacity, .int t_limit, .int r150, .int t_neverSet, .int t_hand, .ref q_weight, .ref q_gain, .ref q_joy, .ref q_bars, .ref q_needs])), (q_weight, .inl (C 0, 12, .inl t_weight)), (q_gain, .inl (C 0, 12, .inl t_gain)), (q_joy, .inl (C 0, 12, .inl t_joy)), (q_bars, .inl (C 0, 12, .inl t_bars)), (q_needs, .inl (C 0, 12, .inl t_needs))] H := hP
  have hD : va_D A [(q, .inr (8, [.int (t_items - (1 : Int32)), .int t_capacity, .int t_limit, .int r150, .int t_neverSet, .int t_hand, .ref q_weight, .ref q_gain, .ref q_joy, .ref q_bars, .ref q_needs])), (q_weight, .inl (C 0, 12, .inl t_weight)), (q_gain, .inl (C 0, 12, .inl t_gain)), (q_joy, .inl (C 0, 12, .inl t_joy)), (q_bars, .inl (C 0, 12, .inl t_bars)), (q_needs, .inl (C 0, 12, .inl t_needs))] := hD
  refine lv_aload_n hx hb dX8_drop_156 rfl (lv_at hl 0 rfl) ?_
  refine lv_aload_n hx hb dX8_drop_157 rfl (lv_at hl 0 rfl) ?_
  refine va_get (D := D) (ci := 8) (v := .int t_neverSet) (C := RX8) (T := TX8) (N := 11) hx hb hts iwX8 hown hK hP 0 rfl rfl 4 (by decide) (hts (.fieldLink RX8 46 "ParetoDesk$Setup" "neverSet" "I") wd_178) (fun _ h9 => h9) rfl dX8_drop_158 ?_
  refine lv_iload_n hx hb dX8_drop_161 rfl (lv_at hl 1 rfl) ?_
  have hPc := hP.sub (ws' := []) [] rfl
  have hDc := hD.sub (ws' := []) [] (by decide) rfl
  have hFc := va_free (wc := []) hD hS hA [] rfl
  refine va_calli (va_runS (As := [.int t_neverSet, .int p1]) (rest := [.ref q]) ⟨hx, hb, hml, hown, hts⟩ (met_X8_withoutPlace l D C t_neverSet p1 H.size _ hwp) (va_cwS 2 hts gc_X8_58 rfl rfl rfl (by decide +kernel) ⟨Nat.le_of_ble_eq_true rfl, Nat.le_of_ble_eq_true rfl⟩) ⟨fun a U g mk q => by obtain ⟨q0, q1, qP, qK, qD⟩ := q; exact ⟨q0, q1, qP, va_K.moved (u := U) (U := U.calling g mk a) (Vm.Alike.refl U.vm) qK, qD⟩, fun U hU hW => ⟨rfl, by rw [hU], by rw [hU]; exact hPc, va_K.moved hW.alike hK, hDc.weaken (fun _ _ _ _ => trivial)⟩⟩ rfl rfl hl.1 rfl (lv_room (Nat.le_of_ble_eq_true rfl)) dX8_drop_162 ⟨Nat.zero_le _, Nat.zero_le _⟩) hS (fun q _ h => hFc q h) hFc (fun r162 u t H1 locs ht hvm hwp hB hz1 hk1 hS => ?_)
  obtain ⟨hP1, -, hD1⟩ := hB
  rw [ht] at hP1
  obtain ⟨hP, hD⟩ := va_join (wr := [(q, .inr (8, [.int (t_items - (1 : Int32)), .int t_capacity, .int t_limit, .int r150, .int t_neverSet, .int t_hand, .ref q_weight, .ref q_gain, .ref q_joy, .ref q_bars, .ref q_needs])), (q_weight, .inl (C 0, 12, .inl t_weight)), (q_gain, .inl (C 0, 12, .inl t_gain)), (q_joy, .inl (C 0, 12, .inl t_joy)), (q_bars, .inl (C 0, 12, .inl t_bars)), (q_needs, .inl (C 0, 12, .inl t_needs))]) (w1 := []) hP hD [] [0, 1, 2, 3, 4, 5] rfl rfl (by decide) (by decide) hk1 hFc hP1 hD1
  generalize H1 = H at hP hS ⊢
  have hP : va_P D vwCl [(q, .inr (8, [.int (t_items - (1 : Int32)), .int t_capacity, .int t_limit, .int r150, .int t_neverSet, .int t_hand, .ref q_weight, .ref q_gain, .ref q_joy, .ref q_bars, .ref q_needs])), (q_weight, .inl (C 0, 12, .inl t_weight)), (q_gain, .inl (C 0, 12, .inl t_gain)), (q_joy, .inl (C 0, 12, .inl t_joy)), (q_bars, .inl (C 0, 12, .inl t_bars)), (q_needs, .inl (C 0, 12, .inl t_needs))] H := hP
  have hD : va_D A [(q, .inr (8, [.int (t_items - (1 : Int32)), .int t_capacity, .int t_limit, .int r150, .int t_neverSet, .int t_hand, .ref q_weight, .ref q_gain, .ref q_joy, .ref q_bars, .ref q_needs])), (q_weight, .inl (C 0, 12, .inl t_weight)), (q_gain, .inl (C 0, 12, .inl t_gain)), (q_joy, .inl (C 0, 12, .inl t_joy)), (q_bars, .inl (C 0, 12, .inl t_bars)), (q_needs, .inl (C 0, 12, .inl t_needs))] := hD
  refine va_put (D := D) (ci := 8) (v := .int r162) (ty := .int) (C := RX8) (T := TX8) (N := 11) hx hb hts iwX8 tyX8 tyX8_ok nmX8 hown hK hP hD hS 0 rfl rfl 4 (by decide) (hts (.fieldLink RX8 46 "ParetoDesk$Setup" "neverSet" "I") wd_178) (fun _ h9 => h9) rfl (by decide +kernel) rfl rfl (Nat.le_of_ble_eq_true rfl) dX8_drop_165 (fun H locs hP hD hS => ?_)
  have hP : va_P D vwCl [(q, .inr (8, [.int (t_items - (1 : Int32)), .int t_capacity, .int t_limit, .int r150, .int r162, .int t_hand, .ref q_weight, .ref q_gain, .ref q_joy, .ref q_bars, .ref q_needs])), (q_weight, .inl (C 0, 12, .inl t_weight)), (q_gain, .inl (C 0, 12, .inl t_gain)), (q_joy, .inl (C 0, 12, .inl t_joy)), (q_bars, .inl (C 0, 12, .inl t_bars)), (q_needs, .inl (C 0, 12, .inl t_needs))] H := hP
  have hD : va_D A [(q, .inr (8, [.int (t_items - (1 : Int32)), .int t_capacity, .int t_limit, .int r150, .int r162, .int t_hand, .ref q_weight, .ref q_gain, .ref q_joy, .ref q_bars, .ref q_needs])), (q_weight, .inl (C 0, 12, .inl t_weight)), (q_gain, .inl (C 0, 12, .inl t_gain)), (q_joy, .inl (C 0, 12, .inl t_joy)), (q_bars, .inl (C 0, 12, .inl t_bars)), (q_needs, .inl (C 0, 12, .inl t_needs))] := hD
  refine lv_aload_n hx hb dX8_drop_168 rfl (lv_at hl 0 rfl) ?_
  refine lv_aload_n hx hb dX8_drop_169 rfl (lv_at hl 0 rfl) ?_
  refine va_get (D := D) (ci := 8) (v := .int t_hand) (C := RX8) (T := TX8) (N := 11) hx hb hts iwX8 hown hK hP 0 rfl rfl 5 (by decide) (hts (.fieldLink RX8 49 "ParetoDesk$Setup" "hand" "I") wd_182) (fun _ h9 => h9) rfl dX8_drop_170 ?_
  refine lv_iload_n hx hb dX8_drop_173 rfl (lv_at hl 1 rfl) ?_
  have hPc := hP.sub (ws' := []) [] rfl
  have hDc := hD.sub (ws' := []) [] (by decide) rfl
  have hFc := va_free (wc := []) hD hS hA [] rfl
  refine va_calli (va_runS (As := [.int t_hand, .int p1]) (rest := [.ref q]) ⟨hx, hb, hml, hown, hts⟩ (met_X8_withoutPlace l D C t_hand p1 H.size _ hwp) (va_cwS 2 hts gc_X8_58 rfl rfl rfl (by decide +kernel) ⟨Nat.le_of_ble_eq_true rfl, Nat.le_of_ble_eq_true rfl⟩) ⟨fun a U g mk q => by obtain ⟨q0, q1, qP, qK, qD⟩ := q; exact ⟨q0, q1, qP, va_K.moved (u := U) (U := U.calling g mk a) (Vm.Alike.refl U.vm) qK, qD⟩, fun U hU hW => ⟨rfl, by rw [hU], by rw [hU]; exact hPc, va_K.moved hW.alike hK, hDc.weaken (fun _ _ _ _ => trivial)⟩⟩ rfl rfl hl.1 rfl (lv_room (Nat.le_of_ble_eq_true rfl)) dX8_drop_174 ⟨Nat.zero_le _, Nat.zero_le _⟩) hS (fun q _ h => hFc q h) hFc (fun r174 u t H1 locs ht hvm hwp hB hz1 hk1 hS => ?_)
  obtain ⟨hP1, -, hD1⟩ := hB
  rw [ht] at hP1
  obtain ⟨hP, hD⟩ := va_join (wr := [(q, .inr (8, [.int (t_items - (1 : Int32)), .int t_capacity, .int t_limit, .int r150, .int r162, .int t_hand, .ref q_weight, .ref q_gain, .ref q_joy, .ref q_bars, .ref q_needs])), (q_weight, .inl (C 0, 12, .inl t_weight)), (q_gain, .inl (C 0, 12, .inl t_gain)), (q_joy, .inl (C 0, 12, .inl t_joy)), (q_bars, .inl (C 0, 12, .inl t_bars)), (q_needs, .inl (C 0, 12, .inl t_needs))]) (w1 := []) hP hD [] [0, 1, 2, 3, 4, 5] rfl rfl (by decide) (by decide) hk1 hFc hP1 hD1
  generalize H1 = H at hP hS ⊢
  have hP : va_P D vwCl [(q, .inr (8, [.int (t_items - (1 : Int32)), .int t_capacity, .int t_limit, .int r150, .int r162, .int t_hand, .ref q_weight, .ref q_gain, .ref q_joy, .ref q_bars, .ref q_needs])), (q_weight, .inl (C 0, 12, .inl t_weight)), (q_gain, .inl (C 0, 12, .inl t_gain)), (q_joy, .inl (C 0, 12, .inl t_joy)), (q_bars, .inl (C 0, 12, .inl t_bars)), (q_needs, .inl (C 0, 12, .inl t_needs))] H := hP
  have hD : va_D A [(q, .inr (8, [.int (t_items - (1 : Int32)), .int t_capacity, .int t_limit, .int r150, .int r162, .int t_hand, .ref q_weight, .ref q_gain, .ref q_joy, .ref q_bars, .ref q_needs])), (q_weight, .inl (C 0, 12, .inl t_weight)), (q_gain, .inl (C 0, 12, .inl t_gain)), (q_joy, .inl (C 0, 12, .inl t_joy)), (q_bars, .inl (C 0, 12, .inl t_bars)), (q_needs, .inl (C 0, 12, .inl t_needs))] := hD
  refine va_put (D := D) (ci := 8) (v := .int r174) (ty := .int) (C := RX8) (T := TX8) (N := 11) hx hb hts iwX8 tyX8 tyX8_ok nmX8 hown hK hP hD hS 0 rfl rfl 5 (by decide) (hts (.fieldLink RX8 49 "ParetoDesk$Setup" "hand" "I") wd_182) (fun _ h9 => h9) rfl (by decide +kernel) rfl rfl (Nat.le_of_ble_eq_true rfl) dX8_drop_177 (fun H locs hP hD hS => ?_)
  have hP : va_P D vwCl [(q, .inr (8, [.int (t_items - (1 : Int32)), .int t_capacity, .int t_limit, .int r150, .int r162, .int r174, .ref q_weight, .ref q_gain, .ref q_joy, .ref q_bars, .ref q_needs])), (q_weight, .inl (C 0, 12, .inl t_weight)), (q_gain, .inl (C 0, 12, .inl t_gain)), (q_joy, .inl (C 0, 12, .inl t_joy)), (q_bars, .inl (C 0, 12, .inl t_bars)), (q_needs, .inl (C 0, 12, .inl t_needs))] H := hP
  have hD : va_D A [(q, .inr (8, [.int (t_items - (1 : Int32)), .int t_capacity, .int t_limit, .int r150, .int r162, .int r174, .ref q_weight, .ref q_gain, .ref q_joy, .ref q_bars, .ref q_needs])), (q_weight, .inl (C 0, 12, .inl t_weight)), (q_gain, .inl (C 0, 12, .inl t_gain)), (q_joy, .inl (C 0, 12, .inl t_joy)), (q_bars, .inl (C 0, 12, .inl t_bars)), (q_needs, .inl (C 0, 12, .inl t_needs))] := hD
  have hP9 := hP.sub (ws' := [(q, .inr (8, [.int (t_items - (1 : Int32)), .int t_capacity, .int t_limit, .int r150, .int r162, .int r174, .ref q_weight, .ref q_gain, .ref q_joy, .ref q_bars, .ref q_needs])), (q_weight, .inl (C 0, 12, .inl t_weight)), (q_gain, .inl (C 0, 12, .inl t_gain)), (q_joy, .inl (C 0, 12, .inl t_joy)), (q_bars, .inl (C 0, 12, .inl t_bars)), (q_needs, .inl (C 0, 12, .inl t_needs))]) [0, 1, 2, 3, 4, 5] rfl
  have hD9 := hD.sub (ws' := [(q, .inr (8, [.int (t_items - (1 : Int32)), .int t_capacity, .int t_limit, .int r150, .int r162, .int r174, .ref q_weight, .ref q_gain, .ref q_joy, .ref q_bars, .ref q_needs])), (q_weight, .inl (C 0, 12, .inl t_weight)), (q_gain, .inl (C 0, 12, .inl t_gain)), (q_joy, .inl (C 0, 12, .inl t_joy)), (q_bars, .inl (C 0, 12, .inl t_bars)), (q_needs, .inl (C 0, 12, .inl t_needs))]) [0, 1, 2, 3, 4, 5] (by decide) rfl
  exact W.vret hx hb hr (fun t ht hW => ⟨⟨(t_items - (1 : Int32), r150, r162, r174, t_weight, t_gain, t_joy, t_bars, t_needs), rfl, hwp, by rw [ht]; exact hP9, va_K.moved hW.alike hK, hD9⟩, hS.F ht⟩) hS.2.2 dX8_drop_180
abbrev ws_X9_keepGreatest : List Cond := .code yX9_keepGreatest cX9_keepGreatest 3 none :: WALL
abbrev rm_X9_keepGreatest : Room := { frames := 0, cells := 0, slots := 0, locals := 0 }
abbrev w_X9_keepGreatest (C : Nat → ClassId) (q : Nat) (q_joyAt : Nat) (t_allowedCount : Int32) (t_joyAt : Nat → Int32) : va_W := [(q, .inr (9, [.ref q_joyAt, .int t_allowedCount])), (q_joyAt, .inl (C 0, 1189, .inl t_joyAt))]
abbrev q_X9_keepGreatest (D : va_G) (C : Nat → ClassId) (q : Nat) (q_joyAt : Nat) (t_allowedCount : Int32) (Q : (Nat → Int32) → Prop) (A : Nat → Prop) : Array Value → State → Outcome → State → Prop := va_Qv (fun (u : (Nat → Int32)) => Q u) (fun (u : (Nat → Int32)) (t : State) => va_P D vwCl (w_X9_keepGreatest C q q_joyAt t_allowedCount u) t.heap ∧ va_K D vwCl (tyL C) t ∧ va_D A (w_X9_keepGreatest C q q_joyAt t_allowedCount u)) A
set_option maxHeartbeats 4000000 in
set_option maxRecDepth 100000 in
theorem met_X9_keepGreatest (l : Launch) (D : va_G) (C : Nat → ClassId) (q : Nat) (q_joyAt : Nat) (p1 : Int32) (p2 : Int32) (t_allowedCount : Int32) (t_joyAt : Nat → Int32) (sz : Nat) (Q : (Nat → Int32) → Prop) (hwp : wp_X9_keepGreatest p1 p2 t_joyAt Q) : Met l yX9_keepGreatest ws_X9_keepGreatest rm_X9_keepGreatest (va_Pc [.ref q, .int p1, .int p2] (fun U => U.heap.size = sz ∧ va_P D vwCl (w_X9_keepGreatest C q q_joyAt t_allowedCount t_joyAt) U.heap ∧ va_K D vwCl (tyL C) U ∧ va_D (fun _ => True) (w_X9_keepGreatest C q q_joyAt t_allowedCount t_joyAt))) (q_X9_keepGreatest D C q q_joyAt t_allowedCount Q (va_A (w_X9_keepGreatest C q q_joyAt t_allowedCount t_joyAt) sz)) 0 0 (va_A (w_X9_keepGreatest C q q_joyAt t_allowedCount t_joyAt) sz) := by
  refine Met.ofW (cc := cX9_keepGreatest) (maxL := 3) (ret := none) (by decide) rfl ?_
  intro p e s m args below meth c s₁ B hml hv
  obtain ⟨rfl, hsz, hP, hK, hD0⟩ := hv
  have hx := B.exec
  have hb := B.bytes
  have hr := B.returns
  have hts : ∀ w ∈ WALL, w.before _ s = true := fun w h => atoms_spec (ws := ws_X9_keepGreatest) B.pre w (List.mem_cons_of_mem _ h)
  have hown : s.vm.findClass RX9 = some m.cls := findClass_of_methodNamed B.named
  have hlocks := B.notSynchronized
  subst hsz
  have hD := hD0.self (sz := s.heap.size)
  generalize hAe : va_A (w_X9_keepGreatest C q q_joyAt t_allowedCount t_joyAt) s.heap.size = A at hD ⊢
  have hA : ∀ q : Nat, s.heap.size ≤ q → A q := fun q h => by rw [← hAe]; exact Or.inr h
  have hS : va_S A s.heap s.heap [] := va_S.rf
  have hl := lv_entry ([.ref q, .int p1, .int p2]) (n := 3) (Nat.le_of_ble_eq_true rfl)
  rw [lg_entry_eq]
  generalize (lg_sl ([.ref q, .int p1, .int p2]) ++ List.replicate (3 - (lg_sl ([.ref q, .int p1, .int p2])).length) Slot.unset).toArray = ls at hl ⊢
  have hl : lv_has ls 3 [(0, .ref q), (1, .int p1), (2, .int p2)] := hl
  unfold wp_X9_keepGreatest at hwp
  obtain ⟨H, hH⟩ : ∃ H, H = s.heap := ⟨_, rfl⟩
  obtain ⟨locs, hlo⟩ : ∃ z : List Loc, z = [] := ⟨_, rfl⟩
  have hP : va_P D vwCl [(q, .inr (9, [.ref q_joyAt, .int t_allowedCount])), (q_joyAt, .inl (C 0, 1189, .inl t_joyAt))] H := by rw [hH]; exact hP
  have hD : va_D A [(q, .inr (9, [.ref q_joyAt, .int t_allowedCount])), (q_joyAt, .inl (C 0, 1189, .inl t_joyAt))] := hD
  have hS : va_S A s.heap H locs := by rw [hH, hlo]; exact hS
  suffices K : W p l e (headSpec ws_X9_keepGreatest rm_X9_keepGreatest).room s m ([.ref q, .int p1, .int p2] : List Value).toArray below meth c H locs 0 0 (MQ below (q_X9_keepGreatest D C q q_joyAt t_allowedCount Q A) ([.ref q, .int p1, .int p2] : List Value).toArray s 0 0 A) (F0 m 0 ls []) from by rw [hH, hlo] at K; exact K
  refine lv_iload_n hx hb dX9_keepGreatest_0 rfl (lv_at hl 1 rfl) ?_
  refine lv_if_lt (tgt := 28) hx hb dX9_keepGreatest_1 (by decide) (fun c1 => ?_) (fun c1 => ?_)
  · have hwp := hwp.1 c1
    have hP9 := hP.sub (ws' := [(q, .inr (9, [.ref q_joyAt, .int t_allowedCount])), (q_joyAt, .inl (C 0, 1189, .inl t_joyAt))]) [0, 1] rfl
    have hD9 := hD.sub (ws' := [(q, .inr (9, [.ref q_joyAt, .int t_allowedCount])), (q_joyAt, .inl (C 0, 1189, .inl t_joyAt))]) [0, 1] (by decide) rfl
    exact W.vret hx hb hr (fun t ht hW => ⟨⟨(t_joyAt), rfl, hwp, by rw [ht]; exact hP9, va_K.moved hW.alike hK, hD9⟩, hS.F ht⟩) hS.2.2 dX9_keepGreatest_28
  · have hwp := hwp.2 c1
    refine lv_iload_n hx hb dX9_keepGreatest_4 rfl (lv_at hl 1 rfl) ?_
    refine lv_sipush (v := 1189) hx hb dX9_keepGreatest_5 (by decide) ?_
    refine lv_icmp_ge (tgt := 28) hx hb dX9_keepGreatest_8 (by decide) (fun c8 => ?_) (fun c8 => ?_)
    · have hwp := hwp.1 c8
      have hP9 := hP.sub (ws' := [(q, .inr (9, [.ref q_joyAt, .int t_allowedCount])), (q_joyAt, .inl (C 0, 1189, .inl t_joyAt))]) [0, 1] rfl
      have hD9 := hD.sub (ws' := [(q, .inr (9, [.ref q_joyAt, .int t_allowedCount])), (q_joyAt, .inl (C 0, 1189, .inl t_joyAt))]) [0, 1] (by decide) rfl
      exact W.vret hx hb hr (fun t ht hW => ⟨⟨(t_joyAt), rfl, hwp, by rw [ht]; exact hP9, va_K.moved hW.alike hK, hD9⟩, hS.F ht⟩) hS.2.2 dX9_keepGreatest_28
    · have hwp := hwp.2 c8
      refine lv_iload_n hx hb dX9_keepGreatest_11 rfl (lv_at hl 2 rfl) ?_
      refine lv_aload_n hx hb dX9_keepGreatest_12 rfl (lv_at hl 0 rfl) ?_
      refine va_get (D := D) (ci := 9) (v := .ref q_joyAt) (C := RX9) (T := TX9) (N := 2) hx hb hts iwX9 hown hK hP 0 rfl rfl 0 (by decide) (hts (.fieldLink RX9 9 "ParetoDesk$Stairs" "joyAt" "[I") wd_347) (fun _ h9 => h9) rfl dX9_keepGreatest_13 ?_
      refine lv_iload_n hx hb dX9_keepGreatest_16 rfl (lv_at hl 1 rfl) ?_
      obtain ⟨hi17, hwp⟩ := hwp
      refine va_iald (D := D) hx hb hK hP 1 0 rfl rfl hi17 dX9_keepGreatest_17 ?_
      refine lv_icmp_le (tgt := 28) hx hb dX9_keepGreatest_18 (by decide) (fun c18 => ?_) (fun c18 => ?_)
      · have hwp := hwp.1 c18
        have hP9 := hP.sub (ws' := [(q, .inr (9, [.ref q_joyAt, .int t_allowedCount])), (q_joyAt, .inl (C 0, 1189, .inl t_joyAt))]) [0, 1] rfl
        have hD9 := hD.sub (ws' := [(q, .inr (9, [.ref q_joyAt, .int t_allowedCount])), (q_joyAt, .inl (C 0, 1189, .inl t_joyAt))]) [0, 1] (by decide) rfl
        exact W.vret hx hb hr (fun t ht hW => ⟨⟨(t_joyAt), rfl, hwp, by rw [ht]; exact hP9, va_K.moved hW.alike hK, hD9⟩, hS.F ht⟩) hS.2.2 dX9_keepGreatest_28
      · have hwp := hwp.2 c18
        refine lv_aload_n hx hb dX9_keepGreatest_21 rfl (lv_at hl 0 rfl) ?_
        refine va_get (D := D) (ci := 9) (v := .ref q_joyAt) (C := RX9) (T := TX9) (N := 2) hx hb hts iwX9 hown hK hP 0 rfl rfl 0 (by decide) (hts (.fieldLink RX9 9 "ParetoDesk$Stairs" "joyAt" "[I") wd_347) (fun _ h9 => h9) rfl dX9_keepGreatest_22 ?_
        refine lv_iload_n hx hb dX9_keepGreatest_25 rfl (lv_at hl 1 rfl) ?_
        refine lv_iload_n hx hb dX9_keepGreatest_26 rfl (lv_at hl 2 rfl) ?_
        obtain ⟨hi27, hwp⟩ := hwp
        refine va_iast (D := D) hx hb hK hP hD hS 1 0 rfl rfl hi27 dX9_keepGreatest_27 (fun H locs hP hD hS => ?_)
        have hP : va_P D vwCl [(q, .inr (9, [.ref q_joyAt, .int t_allowedCount])), (q_joyAt, .inl (C 0, 1189, .inl (upd t_joyAt p1.toNatClampNeg p2)))] H := hP
        have hD : va_D A [(q, .inr (9, [.ref q_joyAt, .int t_allowedCount])), (q_joyAt, .inl (C 0, 1189, .inl (upd t_joyAt p1.toNatClampNeg p2)))] := hD
        have hP9 := hP.sub (ws' := [(q, .inr (9, [.ref q_joyAt, .int t_allowedCount])), (q_joyAt, .inl (C 0, 1189, .inl (upd t_joyAt p1.toNatClampNeg p2)))]) [0, 1] rfl
        have hD9 := hD.sub (ws' := [(q, .inr (9, [.ref q_joyAt, .int t_allowedCount])), (q_joyAt, .inl (C 0, 1189, .inl (upd t_joyAt p1.toNatClampNeg p2)))]) [0, 1] (by decide) rfl
        exact W.vret hx hb hr (fun t ht hW => ⟨⟨(upd t_joyAt p1.toNatClampNeg p2), rfl, hwp, by rw [ht]; exact hP9, va_K.moved hW.alike hK, hD9⟩, hS.F ht⟩) hS.2.2 dX9_keepGreatest_28
abbrev ws_X9_dropBeaten : List Cond := .code yX9_dropBeaten cX9_dropBeaten 3 none :: WALL
abbrev rm_X9_dropBeaten : Room := { frames := 0, cells := 0, slots := 0, locals := 0 }
abbrev w_X9_dropBeaten (C : Nat → ClassId) (q : Nat) (q_joyAt : Nat) (t_allowedCount : Int32) (t_joyAt : Nat → Int32) : va_W := [(q, .inr (9, [.ref q_joyAt, .int t_allowedCount])), (q_joyAt, .inl (C 0, 1189, .inl t_joyAt))]
abbrev q_X9_dropBeaten (D : va_G) (C : Nat → ClassId) (q : Nat) (q_joyAt : Nat) (t_allowedCount : Int32) (Q : (Nat → Int32) → Prop) (A : Nat → Prop) : Array Value → State → Outcome → State → Prop := va_Qv (fun (u : (Nat → Int32)) => Q u) (fun (u : (Nat → Int32)) (t : State) => va_P D vwCl (w_X9_dropBeaten C q q_joyAt t_allowedCount u) t.heap ∧ va_K D vwCl (tyL C) t ∧ va_D A (w_X9_dropBeaten C q q_joyAt t_allowedCount u)) A
set_option maxHeartbeats 4000000 in
set_option maxRecDepth 100000 in
theorem met_X9_dropBeaten (l : Launch) (D : va_G) (C : Nat → ClassId) (q : Nat) (q_joyAt : Nat) (t_allowedCount : Int32) (t_joyAt : Nat → Int32) (sz : Nat) (Q : (Nat → Int32) → Prop) (hwp : wp_X9_dropBeaten t_joyAt Q) : Met l yX9_dropBeaten ws_X9_dropBeaten rm_X9_dropBeaten (va_Pc [.ref q] (fun U => U.heap.size = sz ∧ va_P D vwCl (w_X9_dropBeaten C q q_joyAt t_allowedCount t_joyAt) U.heap ∧ va_K D vwCl (tyL C) U ∧ va_D (fun _ => True) (w_X9_dropBeaten C q q_joyAt t_allowedCount t_joyAt))) (q_X9_dropBeaten D C q q_joyAt t_allowedCount Q (va_A (w_X9_dropBeaten C q q_joyAt t_allowedCount t_joyAt) sz)) 0 0 (va_A (w_X9_dropBeaten C q q_joyAt t_allowedCount t_joyAt) sz) := by
  refine Met.ofW (cc := cX9_dropBeaten) (maxL := 3) (ret := none) (by decide) rfl ?_
  intro p e s m args below meth c s₁ B hml hv
  obtain ⟨rfl, hsz, hP, hK, hD0⟩ := hv
  have hx := B.exec
  have hb := B.bytes
  have hr := B.returns
  have hts : ∀ w ∈ WALL, w.before _ s = true := fun w h => atoms_spec (ws := ws_X9_dropBeaten) B.pre w (List.mem_cons_of_mem _ h)
  have hown : s.vm.findClass RX9 = some m.cls := findClass_of_methodNamed B.named
  have hlocks := B.notSynchronized
  subst hsz
  have hD := hD0.self (sz := s.heap.size)
  generalize hAe : va_A (w_X9_dropBeaten C q q_joyAt t_allowedCount t_joyAt) s.heap.size = A at hD ⊢
  have hA : ∀ q : Nat, s.heap.size ≤ q → A q := fun q h => by rw [← hAe]; exact Or.inr h
  have hS : va_S A s.heap s.heap [] := va_S.rf
  have hl := lv_entry ([.ref q]) (n := 3) (Nat.le_of_ble_eq_true rfl)
  rw [lg_entry_eq]
  generalize (lg_sl ([.ref q]) ++ List.replicate (3 - (lg_sl ([.ref q])).length) Slot.unset).toArray = ls at hl ⊢
  have hl : lv_has ls 3 [(0, .ref q)] := hl
  have HL6 : ∀  (n6 : Nat) (x1 : Int32) (x2 : Int32) (t_joyAt : Nat → Int32) (H : Heap) (locs : List Loc) (ls : Array Slot), lv_has ls 3 [(0, .ref q), (1, .int x1), (2, .int x2)] → va_P D vwCl [(q, .inr (9, [.ref q_joyAt, .int t_allowedCount])), (q_joyAt, .inl (C 0, 1189, .inl t_joyAt))] H → va_D A [(q, .inr (9, [.ref q_joyAt, .int t_allowedCount])), (q_joyAt, .inl (C 0, 1189, .inl t_joyAt))] → va_S A s.heap H locs → wp_X9_dropBeaten_L6 Q n6 x1 x2 t_joyAt → W p l e (headSpec ws_X9_dropBeaten rm_X9_dropBeaten).room s m ([.ref q] : List Value).toArray below meth c H locs 0 0 (MQ below (q_X9_dropBeaten D C q q_joyAt t_allowedCount Q A) ([.ref q] : List Value).toArray s 0 0 A) (F0 m 6 ls []) := by
    intro  n6
    induction n6 with
    | zero =>
      intro x1 x2 t_joyAt H locs ls hl hP hD hS hwp
      exact False.elim hwp
    | succ n6 ih =>
      intro x1 x2 t_joyAt H locs ls hl hP hD hS hwp
      unfold wp_X9_dropBeaten_L6 at hwp
      refine lv_iload_n hx hb dX9_dropBeaten_6 rfl (lv_at hl 2 rfl) ?_
      refine lv_if_lt (tgt := 43) hx hb dX9_dropBeaten_7 (by decide) (fun c7 => ?_) (fun c7 => ?_)
      · have hwp := hwp.1 c7
        have hP9 := hP.sub (ws' := [(q, .inr (9, [.ref q_joyAt, .int t_allowedCount])), (q_joyAt, .inl (C 0, 1189, .inl t_joyAt))]) [0, 1] rfl
        have hD9 := hD.sub (ws' := [(q, .inr (9, [.ref q_joyAt, .int t_allowedCount])), (q_joyAt, .inl (C 0, 1189, .inl t_joyAt))]) [0, 1] (by decide) rfl
        exact W.vret hx hb hr (fun t ht hW => ⟨⟨(t_joyAt), rfl, hwp, by rw [ht]; exact hP9, va_K.moved hW.alike hK, hD9⟩, hS.F ht⟩) hS.2.2 dX9_dropBeaten_43
      · have hwp := hwp.2 c7
        refine lv_aload_n hx hb dX9_dropBeaten_10 rfl (lv_at hl 0 rfl) ?_
        refine va_get (D := D) (ci := 9) (v := .ref q_joyAt) (C := RX9) (T := TX9) (N := 2) hx hb hts iwX9 hown hK hP 0 rfl rfl 0 (by decide) (hts (.fieldLink RX9 9 "ParetoDesk$Stairs" "joyAt" "[I") wd_347) (fun _ h9 => h9) rfl dX9_dropBeaten_11 ?_
        refine lv_iload_n hx hb dX9_dropBeaten_14 rfl (lv_at hl 2 rfl) ?_
        obtain ⟨hi15, hwp⟩ := hwp
        refine va_iald (D := D) hx hb hK hP 1 0 rfl rfl hi15 dX9_dropBeaten_15 ?_
        refine lv_iload_n hx hb dX9_dropBeaten_16 rfl (lv_at hl 1 rfl) ?_
        refine lv_icmp_le (tgt := 30) hx hb dX9_dropBeaten_17 (by decide) (fun c17 => ?_) (fun c17 => ?_)
        · have hwp := hwp.1 c17
          refine lv_aload_n hx hb dX9_dropBeaten_30 rfl (lv_at hl 0 rfl) ?_
          refine va_get (D := D) (ci := 9) (v := .ref q_joyAt) (C := RX9) (T := TX9) (N := 2) hx hb hts iwX9 hown hK hP 0 rfl rfl 0 (by decide) (hts (.fieldLink RX9 9 "ParetoDesk$Stairs" "joyAt" "[I") wd_347) (fun _ h9 => h9) rfl dX9_dropBeaten_31 ?_
          refine lv_iload_n hx hb dX9_dropBeaten_34 rfl (lv_at hl 2 rfl) ?_
          refine lv_iconst (v := (-1)) hx hb dX9_dropBeaten_35 (by decide) ?_
          obtain ⟨hi36, hwp⟩ := hwp
          refine va_iast (D := D) hx hb hK hP hD hS 1 0 rfl rfl hi36 dX9_dropBeaten_36 (fun H locs hP hD hS => ?_)
          have hP : va_P D vwCl [(q, .inr (9, [.ref q_joyAt, .int t_allowedCount])), (q_joyAt, .inl (C 0, 1189, .inl (upd t_joyAt x2.toNatClampNeg (-1 : Int32))))] H := hP
          have hD : va_D A [(q, .inr (9, [.ref q_joyAt, .int t_allowedCount])), (q_joyAt, .inl (C 0, 1189, .inl (upd t_joyAt x2.toNatClampNeg (-1 : Int32))))] := hD
          refine lv_iinc (v := x2 + (-1)) (lv' := [(2, .int (x2 + (-1))), (0, .ref q), (1, .int x1)]) hx hb dX9_dropBeaten_37 hl (k := 2) rfl rfl (by decide) rfl (fun ls hl => ?_)
          refine lv_goto (tgt := 6) hx hb dX9_dropBeaten_40 (by decide) ?_
          have hl9 := lv_sub (l' := [(0, .ref q), (1, .int x1), (2, .int (x2 + (-1)))]) hl [1, 2, 0] rfl
          have hP9 := hP.sub (ws' := [(q, .inr (9, [.ref q_joyAt, .int t_allowedCount])), (q_joyAt, .inl (C 0, 1189, .inl (upd t_joyAt x2.toNatClampNeg (-1 : Int32))))]) [0, 1] rfl
          have hD9 := hD.sub (ws' := [(q, .inr (9, [.ref q_joyAt, .int t_allowedCount])), (q_joyAt, .inl (C 0, 1189, .inl (upd t_joyAt x2.toNatClampNeg (-1 : Int32))))]) [0, 1] (by decide) rfl
          exact ih x1 (x2 + (-1)) (upd t_joyAt x2.toNatClampNeg (-1 : Int32)) H locs ls hl9 hP9 hD9 hS hwp
        · have hwp := hwp.2 c17
          refine lv_aload_n hx hb dX9_dropBeaten_20 rfl (lv_at hl 0 rfl) ?_
          refine va_get (D := D) (ci := 9) (v := .ref q_joyAt) (C := RX9) (T := TX9) (N := 2) hx hb hts iwX9 hown hK hP 0 rfl rfl 0 (by decide) (hts (.fieldLink RX9 9 "ParetoDesk$Stairs" "joyAt" "[I") wd_347) (fun _ h9 => h9) rfl dX9_dropBeaten_21 ?_
          refine lv_iload_n hx hb dX9_dropBeaten_24 rfl (lv_at hl 2 rfl) ?_
          obtain ⟨hi25, hwp⟩ := hwp
          refine va_iald (D := D) hx hb hK hP 1 0 rfl rfl hi25 dX9_dropBeaten_25 ?_
          refine lv_topi (fun v26 ev26 => ?_)
          have hwp := hwp v26 ev26
          refine lv_istore_n (lv' := [(1, .int v26), (0, .ref q), (2, .int x2)]) hx hb dX9_dropBeaten_26 rfl hl (by decide) rfl (fun ls hl => ?_)
          refine lv_goto (tgt := 37) hx hb dX9_dropBeaten_27 (by decide) ?_
          refine lv_iinc (v := x2 + (-1)) (lv' := [(2, .int (x2 + (-1))), (1, .int v26), (0, .ref q)]) hx hb dX9_dropBeaten_37 hl (k := 2) rfl rfl (by decide) rfl (fun ls hl => ?_)
          refine lv_goto (tgt := 6) hx hb dX9_dropBeaten_40 (by decide) ?_
          have hl9 := lv_sub (l' := [(0, .ref q), (1, .int v26), (2, .int (x2 + (-1)))]) hl [2, 1, 0] rfl
          have hP9 := hP.sub (ws' := [(q, .inr (9, [.ref q_joyAt, .int t_allowedCount])), (q_joyAt, .inl (C 0, 1189, .inl t_joyAt))]) [0, 1] rfl
          have hD9 := hD.sub (ws' := [(q, .inr (9, [.ref q_joyAt, .int t_allowedCount])), (q_joyAt, .inl (C 0, 1189, .inl t_joyAt))]) [0, 1] (by decide) rfl
          exact ih v26 (x2 + (-1)) t_joyAt H locs ls hl9 hP9 hD9 hS hwp
  unfold wp_X9_dropBeaten at hwp
  obtain ⟨H, hH⟩ : ∃ H, H = s.heap := ⟨_, rfl⟩
  obtain ⟨locs, hlo⟩ : ∃ z : List Loc, z = [] := ⟨_, rfl⟩
  have hP : va_P D vwCl [(q, .inr (9, [.ref q_joyAt, .int t_allowedCount])), (q_joyAt, .inl (C 0, 1189, .inl t_joyAt))] H := by rw [hH]; exact hP
  have hD : va_D A [(q, .inr (9, [.ref q_joyAt, .int t_allowedCount])), (q_joyAt, .inl (C 0, 1189, .inl t_joyAt))] := hD
  have hS : va_S A s.heap H locs := by rw [hH, hlo]; exact hS
  suffices K : W p l e (headSpec ws_X9_dropBeaten rm_X9_dropBeaten).room s m ([.ref q] : List Value).toArray below meth c H locs 0 0 (MQ below (q_X9_dropBeaten D C q q_joyAt t_allowedCount Q A) ([.ref q] : List Value).toArray s 0 0 A) (F0 m 0 ls []) from by rw [hH, hlo] at K; exact K
  refine lv_iconst (v := (-1)) hx hb dX9_dropBeaten_0 (by decide) ?_
  refine lv_istore_n (lv' := [(1, .int (-1 : Int32)), (0, .ref q)]) hx hb dX9_dropBeaten_1 rfl hl (by decide) rfl (fun ls hl => ?_)
  refine lv_sipush (v := 1188) hx hb dX9_dropBeaten_2 (by decide) ?_
  refine lv_istore_n (lv' := [(2, .int (1188 : Int32)), (1, .int (-1 : Int32)), (0, .ref q)]) hx hb dX9_dropBeaten_5 rfl hl (by decide) rfl (fun ls hl => ?_)
  have hl9 := lv_sub (l' := [(0, .ref q), (1, .int (-1 : Int32)), (2, .int (1188 : Int32))]) hl [2, 1, 0] rfl
  have hP9 := hP.sub (ws' := [(q, .inr (9, [.ref q_joyAt, .int t_allowedCount])), (q_joyAt, .inl (C 0, 1189, .inl t_joyAt))]) [0, 1] rfl
  have hD9 := hD.sub (ws' := [(q, .inr (9, [.ref q_joyAt, .int t_allowedCount])), (q_joyAt, .inl (C 0, 1189, .inl t_joyAt))]) [0, 1] (by decide) rfl
  obtain ⟨nn9, hwp⟩ := hwp
  refine HL6  nn9 (-1 : Int32) (1188 : Int32) t_joyAt H locs ls hl9 hP9 hD9 hS hwp
abbrev ws_X9_build : List Cond := .code yX9_build cX9_build 5 none :: WALL
theorem gc_X9_15 : GoodIn WALL (va_wsS RX9 15 yJ7_fill_53178 ws_J7_fill_53178) := gc_s wd_734 wd_735 wd_138 wd_736
theorem gc_X9_44 : GoodIn WALL (wsV RX9 44 RX9 yX9_dropBeaten ws_X9_dropBeaten) := gc_v wd_755 wd_757 wd_17 wd_119 wd_758
theorem gc_X9_30 : GoodIn WALL (wsV RX9 30 RX0 yX0_reason ws_X0_reason) := gc_v wd_737 wd_738 wd_739 wd_118 wd_740
theorem gc_X9_40 : GoodIn WALL (wsV RX9 40 RX9 yX9_keepGreatest ws_X9_keepGreatest) := gc_v wd_751 wd_753 wd_16 wd_119 wd_754
abbrev rm_X9_build : Room := { frames := 3, cells := 0, slots := 0, locals := 63 }
abbrev w_X9_build (C : Nat → ClassId) (q : Nat) (q_joyAt : Nat) (q1 : Nat) (q1_weight : Nat) (q1_gain : Nat) (q1_joy : Nat) (q1_barred : Nat) (q1_needed : Nat) (t_allowedCount : Int32) (t_joyAt : Nat → Int32) (t1_sets : Int32) (t1_limit : Int32) (t1_mustSet : Int32) (t1_neverSet : Int32) (t1_weight : Nat → Int32) (t1_barred : Nat → Int32) (t1_needed : Nat → Int32) (t1_gain : Nat → Int32) (t1_joy : Nat → Int32) : va_W := [(q, .inr (9, [.ref q_joyAt, .int t_allowedCount])), (q_joyAt, .inl (C 0, 1189, .inl t_joyAt)), (q1, .inr (0, [.ref q1_weight, .ref q1_gain, .ref q1_joy, .ref q1_barred, .ref q1_needed, .int t1_sets, .int t1_limit, .int t1_mustSet, .int t1_neverSet])), (q1_weight, .inl (C 0, 4096, .inl t1_weight)), (q1_barred, .inl (C 0, 4096, .inl t1_barred)), (q1_needed, .inl (C 0, 4096, .inl t1_needed)), (q1_gain, .inl (C 0, 4096, .inl t1_gain)), (q1_joy, .inl (C 0, 4096, .inl t1_joy))]
abbrev q_X9_build (D : va_G) (C : Nat → ClassId) (q : Nat) (q_joyAt : Nat) (q1 : Nat) (q1_weight : Nat) (q1_gain : Nat) (q1_joy : Nat) (q1_barred : Nat) (q1_needed : Nat) (t1_sets : Int32) (t1_limit : Int32) (t1_mustSet : Int32) (t1_neverSet : Int32) (t1_weight : Nat → Int32) (t1_barred : Nat → Int32) (t1_needed : Nat → Int32) (t1_gain : Nat → Int32) (t1_joy : Nat → Int32) (Q : Int32 → (Nat → Int32) → Prop) (A : Nat → Prop) : Array Value → State → Outcome → State → Prop := va_Qv (fun (u : Int32 × (Nat → Int32)) => Q u.1 u.2) (fun (u : Int32 × (Nat → Int32)) (t : State) => va_P D vwCl (w_X9_build C q q_joyAt q1 q1_weight q1_gain q1_joy q1_barred q1_needed u.1 u.2 t1_sets t1_limit t1_mustSet t1_neverSet t1_weight t1_barred t1_needed t1_gain t1_joy) t.heap ∧ va_K D vwCl (tyL C) t ∧ va_D A (w_X9_build C q q_joyAt q1 q1_weight q1_gain q1_joy q1_barred q1_needed u.1 u.2 t1_sets t1_limit t1_mustSet t1_neverSet t1_weight t1_barred t1_needed t1_gain t1_joy)) A
set_option maxHeartbeats 4000000 in
set_option maxRecDepth 100000 in
theorem met_X9_build (l : Launch) (D : va_G) (C : Nat → ClassId) (q : Nat) (q_joyAt : Nat) (q1 : Nat) (q1_weight : Nat) (q1_gain : Nat) (q1_joy : Nat) (q1_barred : Nat) (q1_needed : Nat) (p2 : Int32) (p3 : Int32) (t_allowedCount : Int32) (t_joyAt : Nat → Int32) (t1_sets : Int32) (t1_limit : Int32) (t1_mustSet : Int32) (t1_neverSet : Int32) (t1_weight : Nat → Int32) (t1_barred : Nat → Int32) (t1_needed : Nat → Int32) (t1_gain : Nat → Int32) (t1_joy : Nat → Int32) (sz : Nat) (Q : Int32 → (Nat → Int32) → Prop) (hwp : wp_X9_build p2 p3 t_allowedCount t_joyAt t1_sets t1_limit t1_mustSet t1_neverSet t1_weight t1_barred t1_needed t1_gain t1_joy Q) : Met l yX9_build ws_X9_build rm_X9_build (va_Pc [.ref q, .ref q1, .int p2, .int p3] (fun U => U.heap.size = sz ∧ va_P D vwCl (w_X9_build C q q_joyAt q1 q1_weight q1_gain q1_joy q1_barred q1_needed t_allowedCount t_joyAt t1_sets t1_limit t1_mustSet t1_neverSet t1_weight t1_barred t1_needed t1_gain t1_joy) U.heap ∧ va_K D vwCl (tyL C) U ∧ va_D (fun _ => True) (w_X9_build C q q_joyAt q1 q1_weight q1_gain q1_joy q1_barred q1_needed t_allowedCount t_joyAt t1_sets t1_limit t1_mustSet t1_neverSet t1_weight t1_barred t1_needed t1_gain t1_joy))) (q_X9_build D C q q_joyAt q1 q1_weight q1_gain q1_joy q1_barred q1_needed t1_sets t1_limit t1_mustSet t1_neverSet t1_weight t1_barred t1_needed t1_gain t1_joy Q (va_A (w_X9_build C q q_joyAt q1 q1_weight q1_gain q1_joy q1_barred q1_needed t_allowedCount t_joyAt t1_sets t1_limit t1_mustSet t1_neverSet t1_weight t1_barred t1_needed t1_gain t1_joy) sz)) 0 0 (va_A (w_X9_build C q q_joyAt q1 q1_weight q1_gain q1_joy q1_barred q1_needed t_allowedCount t_joyAt t1_sets t1_limit t1_mustSet t1_neverSet t1_weight t1_barred t1_needed t1_gain t1_joy) sz) := by
  refine Met.ofW (cc := cX9_build) (maxL := 5) (ret := none) (by decide) rfl ?_
  intro p e s m args below meth c s₁ B hml hv
  obtain ⟨rfl, hsz, hP, hK, hD0⟩ := hv
  have hx := B.exec
  have hb := B.bytes
  have hr := B.returns
  have hts : ∀ w ∈ WALL, w.before _ s = true := fun w h => atoms_spec (ws := ws_X9_build) B.pre w (List.mem_cons_of_mem _ h)
  have hown : s.vm.findClass RX9 = some m.cls := findClass_of_methodNamed B.named
  have hlocks := B.notSynchronized
  subst hsz
  have hD := hD0.self (sz := s.heap.size)
  generalize hAe : va_A (w_X9_build C q q_joyAt q1 q1_weight q1_gain q1_joy q1_barred q1_needed t_allowedCount t_joyAt t1_sets t1_limit t1_mustSet t1_neverSet t1_weight t1_barred t1_needed t1_gain t1_joy) s.heap.size = A at hD ⊢
  have hA : ∀ q : Nat, s.heap.size ≤ q → A q := fun q h => by rw [← hAe]; exact Or.inr h
  have hS : va_S A s.heap s.heap [] := va_S.rf
  have hl := lv_entry ([.ref q, .ref q1, .int p2, .int p3]) (n := 5) (Nat.le_of_ble_eq_true rfl)
  rw [lg_entry_eq]
  generalize (lg_sl ([.ref q, .ref q1, .int p2, .int p3]) ++ List.replicate (5 - (lg_sl ([.ref q, .ref q1, .int p2, .int p3])).length) Slot.unset).toArray = ls at hl ⊢
  have hl : lv_has ls 5 [(0, .ref q), (1, .ref q1), (2, .int p2), (3, .int p3)] := hl
  have HB84 : ∀  (t_allowedCount : Int32) (t_joyAt : Nat → Int32) (H : Heap) (locs : List Loc) (ls : Array Slot), lv_has ls 5 [(0, .ref q)] → va_P D vwCl [(q, .inr (9, [.ref q_joyAt, .int t_allowedCount])), (q_joyAt, .inl (C 0, 1189, .inl t_joyAt)), (q1, .inr (0, [.ref q1_weight, .ref q1_gain, .ref q1_joy, .ref q1_barred, .ref q1_needed, .int t1_sets, .int t1_limit, .int t1_mustSet, .int t1_neverSet])), (q1_weight, .inl (C 0, 4096, .inl t1_weight)), (q1_barred, .inl (C 0, 4096, .inl t1_barred)), (q1_needed, .inl (C 0, 4096, .inl t1_needed)), (q1_gain, .inl (C 0, 4096, .inl t1_gain)), (q1_joy, .inl (C 0, 4096, .inl t1_joy))] H → va_D A [(q, .inr (9, [.ref q_joyAt, .int t_allowedCount])), (q_joyAt, .inl (C 0, 1189, .inl t_joyAt)), (q1, .inr (0, [.ref q1_weight, .ref q1_gain, .ref q1_joy, .ref q1_barred, .ref q1_needed, .int t1_sets, .int t1_limit, .int t1_mustSet, .int t1_neverSet])), (q1_weight, .inl (C 0, 4096, .inl t1_weight)), (q1_barred, .inl (C 0, 4096, .inl t1_barred)), (q1_needed, .inl (C 0, 4096, .inl t1_needed)), (q1_gain, .inl (C 0, 4096, .inl t1_gain)), (q1_joy, .inl (C 0, 4096, .inl t1_joy))] → va_S A s.heap H locs → wp_X9_build_b84 t1_sets t1_limit t1_mustSet t1_neverSet t1_weight t1_barred t1_needed t1_gain t1_joy Q t_allowedCount t_joyAt → W p l e (headSpec ws_X9_build rm_X9_build).room s m ([.ref q, .ref q1, .int p2, .int p3] : List Value).toArray below meth c H locs 0 0 (MQ below (q_X9_build D C q q_joyAt q1 q1_weight q1_gain q1_joy q1_barred q1_needed t1_sets t1_limit t1_mustSet t1_neverSet t1_weight t1_barred t1_needed t1_gain t1_joy Q A) ([.ref q, .ref q1, .int p2, .int p3] : List Value).toArray s 0 0 A) (F0 m 84 ls []) := by
    intro t_allowedCount t_joyAt H locs ls hl hP hD hS hwp
    unfold wp_X9_build_b84 at hwp
    refine lv_aload_n hx hb dX9_build_84 rfl (lv_at hl 0 rfl) ?_
    have hPc := hP.sub (ws' := [(q, .inr (9, [.ref q_joyAt, .int t_allowedCount])), (q_joyAt, .inl (C 0, 1189, .inl t_joyAt))]) [0, 1] rfl
    have hDc := hD.sub (ws' := [(q, .inr (9, [.ref q_joyAt, .int t_allowedCount])), (q_joyAt, .inl (C 0, 1189, .inl t_joyAt))]) [0, 1] (by decide) rfl
    have hFc := va_free (wc := [(q, .inr (9, [.ref q_joyAt, .int t_allowedCount])), (q_joyAt, .inl (C 0, 1189, .inl t_joyAt))]) hD hS hA [0, 1] rfl
    refine va_callv (va_runV (As := []) (rest := []) ⟨hx, hb, hml, hown, hts⟩ (met_X9_dropBeaten l D C q q_joyAt t_allowedCount t_joyAt H.size _ hwp) (cwV 0 hts gc_X9_44 rfl rfl rfl (by decide +kernel) ⟨Nat.le_of_ble_eq_true rfl, Nat.le_of_ble_eq_true rfl⟩) ⟨fun a U g mk q => by obtain ⟨q0, q1, qP, qK, qD⟩ := q; exact ⟨q0, q1, qP, va_K.moved (u := U) (U := U.calling g mk a) (Vm.Alike.refl U.vm) qK, qD⟩, va_recv hK hPc (ci := 9) (q0 := 0) rfl rfl, fun U hU hW => ⟨rfl, by rw [hU], by rw [hU]; exact hPc, va_K.moved hW.alike hK, hDc.weaken (fun _ _ _ _ => trivial)⟩⟩ rfl rfl hl.1 rfl (lv_room (Nat.le_of_ble_eq_true rfl)) dX9_build_85 ⟨Nat.zero_le _, Nat.zero_le _⟩) hS (fun q _ h => hFc q h) hFc (fun u t H1 locs ht hvm hwp hB hz1 hk1 hS => ?_)
    obtain ⟨u85_2, rfl⟩ : ∃ z, z = u := ⟨_, rfl⟩
    obtain ⟨hP1, -, hD1⟩ := hB
    rw [ht] at hP1
    obtain ⟨hP, hD⟩ := va_join (wr := [(q1, .inr (0, [.ref q1_weight, .ref q1_gain, .ref q1_joy, .ref q1_barred, .ref q1_needed, .int t1_sets, .int t1_limit, .int t1_mustSet, .int t1_neverSet])), (q1_weight, .inl (C 0, 4096, .inl t1_weight)), (q1_barred, .inl (C 0, 4096, .inl t1_barred)), (q1_needed, .inl (C 0, 4096, .inl t1_needed)), (q1_gain, .inl (C 0, 4096, .inl t1_gain)), (q1_joy, .inl (C 0, 4096, .inl t1_joy))]) (w1 := [(q, .inr (9, [.ref q_joyAt, .int t_allowedCount])), (q_joyAt, .inl (C 0, 1189, .inl u85_2))]) hP hD [0, 1] [2, 3, 4, 5, 6, 7] rfl rfl (by decide) (by decide) hk1 hFc hP1 hD1
    generalize H1 = H at hP hS ⊢
    have hP : va_P D vwCl [(q1, .inr (0, [.ref q1_weight, .ref q1_gain, .ref q1_joy, .ref q1_barred, .ref q1_needed, .int t1_sets, .int t1_limit, .int t1_mustSet, .int t1_neverSet])), (q1_weight, .inl (C 0, 4096, .inl t1_weight)), (q1_barred, .inl (C 0, 4096, .inl t1_barred)), (q1_needed, .inl (C 0, 4096, .inl t1_needed)), (q1_gain, .inl (C 0, 4096, .inl t1_gain)), (q1_joy, .inl (C 0, 4096, .inl t1_joy)), (q, .inr (9, [.ref q_joyAt, .int t_allowedCount])), (q_joyAt, .inl (C 0, 1189, .inl u85_2))] H := hP
    have hD : va_D A [(q1, .inr (0, [.ref q1_weight, .ref q1_gain, .ref q1_joy, .ref q1_barred, .ref q1_needed, .int t1_sets, .int t1_limit, .int t1_mustSet, .int t1_neverSet])), (q1_weight, .inl (C 0, 4096, .inl t1_weight)), (q1_barred, .inl (C 0, 4096, .inl t1_barred)), (q1_needed, .inl (C 0, 4096, .inl t1_needed)), (q1_gain, .inl (C 0, 4096, .inl t1_gain)), (q1_joy, .inl (C 0, 4096, .inl t1_joy)), (q, .inr (9, [.ref q_joyAt, .int t_allowedCount])), (q_joyAt, .inl (C 0, 1189, .inl u85_2))] := hD
    have hP9 := hP.sub (ws' := [(q, .inr (9, [.ref q_joyAt, .int t_allowedCount])), (q_joyAt, .inl (C 0, 1189, .inl u85_2)), (q1, .inr (0, [.ref q1_weight, .ref q1_gain, .ref q1_joy, .ref q1_barred, .ref q1_needed, .int t1_sets, .int t1_limit, .int t1_mustSet, .int t1_neverSet])), (q1_weight, .inl (C 0, 4096, .inl t1_weight)), (q1_barred, .inl (C 0, 4096, .inl t1_barred)), (q1_needed, .inl (C 0, 4096, .inl t1_needed)), (q1_gain, .inl (C 0, 4096, .inl t1_gain)), (q1_joy, .inl (C 0, 4096, .inl t1_joy))]) [6, 7, 0, 1, 2, 3, 4, 5] rfl
    have hD9 := hD.sub (ws' := [(q, .inr (9, [.ref q_joyAt, .int t_allowedCount])), (q_joyAt, .inl (C 0, 1189, .inl u85_2)), (q1, .inr (0, [.ref q1_weight, .ref q1_gain, .ref q1_joy, .ref q1_barred, .ref q1_needed, .int t1_sets, .int t1_limit, .int t1_mustSet, .int t1_neverSet])), (q1_weight, .inl (C 0, 4096, .inl t1_weight)), (q1_barred, .inl (C 0, 4096, .inl t1_barred)), (q1_needed, .inl (C 0, 4096, .inl t1_needed)), (q1_gain, .inl (C 0, 4096, .inl t1_gain)), (q1_joy, .inl (C 0, 4096, .inl t1_joy))]) [6, 7, 0, 1, 2, 3, 4, 5] (by decide) rfl
    exact W.vret hx hb hr (fun t ht hW => ⟨⟨(t_allowedCount, u85_2), rfl, hwp, by rw [ht]; exact hP9, va_K.moved hW.alike hK, hD9⟩, hS.F ht⟩) hS.2.2 dX9_build_88
  have HL16 : ∀ (x2 : Int32) (x3 : Int32) (n16 : Nat) (x4 : Int32) (t_allowedCount : Int32) (t_joyAt : Nat → Int32) (H : Heap) (locs : List Loc) (ls : Array Slot), lv_has ls 5 [(0, .ref q), (1, .ref q1), (2, .int x2), (3, .int x3), (4, .int x4)] → va_P D vwCl [(q, .inr (9, [.ref q_joyAt, .int t_allowedCount])), (q_joyAt, .inl (C 0, 1189, .inl t_joyAt)), (q1, .inr (0, [.ref q1_weight, .ref q1_gain, .ref q1_joy, .ref q1_barred, .ref q1_needed, .int t1_sets, .int t1_limit, .int t1_mustSet, .int t1_neverSet])), (q1_weight, .inl (C 0, 4096, .inl t1_weight)), (q1_barred, .inl (C 0, 4096, .inl t1_barred)), (q1_needed, .inl (C 0, 4096, .inl t1_needed)), (q1_gain, .inl (C 0, 4096, .inl t1_gain)), (q1_joy, .inl (C 0, 4096, .inl t1_joy))] H → va_D A [(q, .inr (9, [.ref q_joyAt, .int t_allowedCount])), (q_joyAt, .inl (C 0, 1189, .inl t_joyAt)), (q1, .inr (0, [.ref q1_weight, .ref q1_gain, .ref q1_joy, .ref q1_barred, .ref q1_needed, .int t1_sets, .int t1_limit, .int t1_mustSet, .int t1_neverSet])), (q1_weight, .inl (C 0, 4096, .inl t1_weight)), (q1_barred, .inl (C 0, 4096, .inl t1_barred)), (q1_needed, .inl (C 0, 4096, .inl t1_needed)), (q1_gain, .inl (C 0, 4096, .inl t1_gain)), (q1_joy, .inl (C 0, 4096, .inl t1_joy))] → va_S A s.heap H locs → wp_X9_build_L16 t1_sets t1_limit t1_mustSet t1_neverSet t1_weight t1_barred t1_needed t1_gain t1_joy x2 x3 Q n16 x4 t_allowedCount t_joyAt → W p l e (headSpec ws_X9_build rm_X9_build).room s m ([.ref q, .ref q1, .int p2, .int p3] : List Value).toArray below meth c H locs 0 0 (MQ below (q_X9_build D C q q_joyAt q1 q1_weight q1_gain q1_joy q1_barred q1_needed t1_sets t1_limit t1_mustSet t1_neverSet t1_weight t1_barred t1_needed t1_gain t1_joy Q A) ([.ref q, .ref q1, .int p2, .int p3] : List Value).toArray s 0 0 A) (F0 m 16 ls []) := by
    intro x2 x3 n16
    induction n16 with
    | zero =>
      intro x4 t_allowedCount t_joyAt H locs ls hl hP hD hS hwp
      exact False.elim hwp
    | succ n16 ih =>
      intro x4 t_allowedCount t_joyAt H locs ls hl hP hD hS hwp
      unfold wp_X9_build_L16 at hwp
      refine lv_iload hx hb dX9_build_16 (lv_at hl 4 rfl) ?_
      refine lv_aload_n hx hb dX9_build_18 rfl (lv_at hl 1 rfl) ?_
      refine va_get (D := D) (ci := 0) (v := .int t1_sets) (C := RX0) (T := TX0) (N := 9) hx hb hts iwX0 hown hK hP 2 rfl rfl 5 (by decide) (hts (.fieldLink RX9 25 "ParetoDesk$Choices" "sets" "I") wd_315) (fun _ h9 => h9) rfl dX9_build_19 ?_
      refine lv_icmp_ge (tgt := 84) hx hb dX9_build_22 (by decide) (fun c22 => ?_) (fun c22 => ?_)
      · have hwp := hwp.1 c22
        have hl9 := lv_sub (l' := [(0, .ref q)]) hl [0] rfl
        have hP9 := hP.sub (ws' := [(q, .inr (9, [.ref q_joyAt, .int t_allowedCount])), (q_joyAt, .inl (C 0, 1189, .inl t_joyAt)), (q1, .inr (0, [.ref q1_weight, .ref q1_gain, .ref q1_joy, .ref q1_barred, .ref q1_needed, .int t1_sets, .int t1_limit, .int t1_mustSet, .int t1_neverSet])), (q1_weight, .inl (C 0, 4096, .inl t1_weight)), (q1_barred, .inl (C 0, 4096, .inl t1_barred)), (q1_needed, .inl (C 0, 4096, .inl t1_needed)), (q1_gain, .inl (C 0, 4096, .inl t1_gain)), (q1_joy, .inl (C 0, 4096, .inl t1_joy))]) [0, 1, 2, 3, 4, 5, 6, 7] rfl
        have hD9 := hD.sub (ws' := [(q, .inr (9, [.ref q_joyAt, .int t_allowedCount])), (q_joyAt, .inl (C 0, 1189, .inl t_joyAt)), (q1, .inr (0, [.ref q1_weight, .ref q1_gain, .ref q1_joy, .ref q1_barred, .ref q1_needed, .int t1_sets, .int t1_limit, .int t1_mustSet, .int t1_neverSet])), (q1_weight, .inl (C 0, 4096, .inl t1_weight)), (q1_barred, .inl (C 0, 4096, .inl t1_barred)), (q1_needed, .inl (C 0, 4096, .inl t1_needed)), (q1_gain, .inl (C 0, 4096, .inl t1_gain)), (q1_joy, .inl (C 0, 4096, .inl t1_joy))]) [0, 1, 2, 3, 4, 5, 6, 7] (by decide) rfl
        exact HB84 t_allowedCount t_joyAt H locs ls hl9 hP9 hD9 hS hwp
      · have hwp := hwp.2 c22
        refine lv_iload hx hb dX9_build_25 (lv_at hl 4 rfl) ?_
        refine lv_sipush (v := 4096) hx hb dX9_build_27 (by decide) ?_
        refine lv_icmp_ge (tgt := 84) hx hb dX9_build_30 (by decide) (fun c30 => ?_) (fun c30 => ?_)
        · have hwp := hwp.1 c30
          have hl9 := lv_sub (l' := [(0, .ref q)]) hl [0] rfl
          have hP9 := hP.sub (ws' := [(q, .inr (9, [.ref q_joyAt, .int t_allowedCount])), (q_joyAt, .inl (C 0, 1189, .inl t_joyAt)), (q1, .inr (0, [.ref q1_weight, .ref q1_gain, .ref q1_joy, .ref q1_barred, .ref q1_needed, .int t1_sets, .int t1_limit, .int t1_mustSet, .int t1_neverSet])), (q1_weight, .inl (C 0, 4096, .inl t1_weight)), (q1_barred, .inl (C 0, 4096, .inl t1_barred)), (q1_needed, .inl (C 0, 4096, .inl t1_needed)), (q1_gain, .inl (C 0, 4096, .inl t1_gain)), (q1_joy, .inl (C 0, 4096, .inl t1_joy))]) [0, 1, 2, 3, 4, 5, 6, 7] rfl
          have hD9 := hD.sub (ws' := [(q, .inr (9, [.ref q_joyAt, .int t_allowedCount])), (q_joyAt, .inl (C 0, 1189, .inl t_joyAt)), (q1, .inr (0, [.ref q1_weight, .ref q1_gain, .ref q1_joy, .ref q1_barred, .ref q1_needed, .int t1_sets, .int t1_limit, .int t1_mustSet, .int t1_neverSet])), (q1_weight, .inl (C 0, 4096, .inl t1_weight)), (q1_barred, .inl (C 0, 4096, .inl t1_barred)), (q1_needed, .inl (C 0, 4096, .inl t1_needed)), (q1_gain, .inl (C 0, 4096, .inl t1_gain)), (q1_joy, .inl (C 0, 4096, .inl t1_joy))]) [0, 1, 2, 3, 4, 5, 6, 7] (by decide) rfl
          exact HB84 t_allowedCount t_joyAt H locs ls hl9 hP9 hD9 hS hwp
        · have hwp := hwp.2 c30
          refine lv_iload hx hb dX9_build_33 (lv_at hl 4 rfl) ?_
          refine lv_iload_n hx hb dX9_build_35 rfl (lv_at hl 3 rfl) ?_
          refine lv_iand hx hb dX9_build_36 ?_
          refine lv_if_ne (tgt := 78) hx hb dX9_build_37 (by decide) (fun c37 => ?_) (fun c37 => ?_)
          · have hwp := hwp.1 c37
            refine lv_iinc (v := x4 + 1) (lv' := [(4, .int (x4 + 1)), (0, .ref q), (1, .ref q1), (2, .int x2), (3, .int x3)]) hx hb dX9_build_78 hl (k := 4) rfl rfl (by decide) rfl (fun ls hl => ?_)
            refine lv_goto (tgt := 16) hx hb dX9_build_81 (by decide) ?_
            have hl9 := lv_sub (l' := [(0, .ref q), (1, .ref q1), (2, .int x2), (3, .int x3), (4, .int (x4 + 1))]) hl [1, 2, 3, 4, 0] rfl
            have hP9 := hP.sub (ws' := [(q, .inr (9, [.ref q_joyAt, .int t_allowedCount])), (q_joyAt, .inl (C 0, 1189, .inl t_joyAt)), (q1, .inr (0, [.ref q1_weight, .ref q1_gain, .ref q1_joy, .ref q1_barred, .ref q1_needed, .int t1_sets, .int t1_limit, .int t1_mustSet, .int t1_neverSet])), (q1_weight, .inl (C 0, 4096, .inl t1_weight)), (q1_barred, .inl (C 0, 4096, .inl t1_barred)), (q1_needed, .inl (C 0, 4096, .inl t1_needed)), (q1_gain, .inl (C 0, 4096, .inl t1_gain)), (q1_joy, .inl (C 0, 4096, .inl t1_joy))]) [0, 1, 2, 3, 4, 5, 6, 7] rfl
            have hD9 := hD.sub (ws' := [(q, .inr (9, [.ref q_joyAt, .int t_allowedCount])), (q_joyAt, .inl (C 0, 1189, .inl t_joyAt)), (q1, .inr (0, [.ref q1_weight, .ref q1_gain, .ref q1_joy, .ref q1_barred, .ref q1_needed, .int t1_sets, .int t1_limit, .int t1_mustSet, .int t1_neverSet])), (q1_weight, .inl (C 0, 4096, .inl t1_weight)), (q1_barred, .inl (C 0, 4096, .inl t1_barred)), (q1_needed, .inl (C 0, 4096, .inl t1_needed)), (q1_gain, .inl (C 0, 4096, .inl t1_gain)), (q1_joy, .inl (C 0, 4096, .inl t1_joy))]) [0, 1, 2, 3, 4, 5, 6, 7] (by decide) rfl
            exact ih (x4 + 1) t_allowedCount t_joyAt H locs ls hl9 hP9 hD9 hS hwp
          · have hwp := hwp.2 c37
            refine lv_aload_n hx hb dX9_build_40 rfl (lv_at hl 1 rfl) ?_
            refine lv_iload hx hb dX9_build_41 (lv_at hl 4 rfl) ?_
            refine lv_iload_n hx hb dX9_build_43 rfl (lv_at hl 2 rfl) ?_
            have hPc := hP.sub (ws' := [(q1, .inr (0, [.ref q1_weight, .ref q1_gain, .ref q1_joy, .ref q1_barred, .ref q1_needed, .int t1_sets, .int t1_limit, .int t1_mustSet, .int t1_neverSet])), (q1_weight, .inl (C 0, 4096, .inl t1_weight)), (q1_barred, .inl (C 0, 4096, .inl t1_barred)), (q1_needed, .inl (C 0, 4096, .inl t1_needed))]) [2, 3, 4, 5] rfl
            have hDc := hD.sub (ws' := [(q1, .inr (0, [.ref q1_weight, .ref q1_gain, .ref q1_joy, .ref q1_barred, .ref q1_needed, .int t1_sets, .int t1_limit, .int t1_mustSet, .int t1_neverSet])), (q1_weight, .inl (C 0, 4096, .inl t1_weight)), (q1_barred, .inl (C 0, 4096, .inl t1_barred)), (q1_needed, .inl (C 0, 4096, .inl t1_needed))]) [2, 3, 4, 5] (by decide) rfl
            have hFc := va_free (wc := [(q1, .inr (0, [.ref q1_weight, .ref q1_gain, .ref q1_joy, .ref q1_barred, .ref q1_needed, .int t1_sets, .int t1_limit, .int t1_mustSet, .int t1_neverSet])), (q1_weight, .inl (C 0, 4096, .inl t1_weight)), (q1_barred, .inl (C 0, 4096, .inl t1_barred)), (q1_needed, .inl (C 0, 4096, .inl t1_needed))]) hD hS hA [2, 3, 4, 5] rfl
            refine va_calli (va_runV (As := [.int x4, .int x2]) (rest := []) ⟨hx, hb, hml, hown, hts⟩ (met_X0_reason l D C q1 q1_weight q1_gain q1_joy q1_barred q1_needed x4 x2 t1_sets t1_limit t1_mustSet t1_neverSet t1_weight t1_barred t1_needed H.size _ hwp) (cwV 2 hts gc_X9_30 rfl rfl rfl (by decide +kernel) ⟨Nat.le_of_ble_eq_true rfl, Nat.le_of_ble_eq_true rfl⟩) ⟨fun a U g mk q => by obtain ⟨q0, q1, qP, qK, qD⟩ := q; exact ⟨q0, q1, qP, va_K.moved (u := U) (U := U.calling g mk a) (Vm.Alike.refl U.vm) qK, qD⟩, va_recv hK hPc (ci := 0) (q0 := 0) rfl rfl, fun U hU hW => ⟨rfl, by rw [hU], by rw [hU]; exact hPc, va_K.moved hW.alike hK, hDc.weaken (fun _ _ _ _ => trivial)⟩⟩ rfl rfl hl.1 rfl (lv_room (Nat.le_of_ble_eq_true rfl)) dX9_build_44 ⟨Nat.zero_le _, Nat.zero_le _⟩) hS (fun q _ h => hFc q h) hFc (fun r44 u t H1 locs ht hvm hwp hB hz1 hk1 hS => ?_)
            obtain ⟨hP1, -, hD1⟩ := hB
            rw [ht] at hP1
            obtain ⟨hP, hD⟩ := va_join (wr := [(q, .inr (9, [.ref q_joyAt, .int t_allowedCount])), (q_joyAt, .inl (C 0, 1189, .inl t_joyAt)), (q1_gain, .inl (C 0, 4096, .inl t1_gain)), (q1_joy, .inl (C 0, 4096, .inl t1_joy))]) (w1 := [(q1, .inr (0, [.ref q1_weight, .ref q1_gain, .ref q1_joy, .ref q1_barred, .ref q1_needed, .int t1_sets, .int t1_limit, .int t1_mustSet, .int t1_neverSet])), (q1_weight, .inl (C 0, 4096, .inl t1_weight)), (q1_barred, .inl (C 0, 4096, .inl t1_barred)), (q1_needed, .inl (C 0, 4096, .inl t1_needed))]) hP hD [2, 3, 4, 5] [0, 1, 6, 7] rfl rfl (by decide) (by decide) hk1 hFc hP1 hD1
            generalize H1 = H at hP hS ⊢
            have hP : va_P D vwCl [(q, .inr (9, [.ref q_joyAt, .int t_allowedCount])), (q_joyAt, .inl (C 0, 1189, .inl t_joyAt)), (q1_gain, .inl (C 0, 4096, .inl t1_gain)), (q1_joy, .inl (C 0, 4096, .inl t1_joy)), (q1, .inr (0, [.ref q1_weight, .ref q1_gain, .ref q1_joy, .ref q1_barred, .ref q1_needed, .int t1_sets, .int t1_limit, .int t1_mustSet, .int t1_neverSet])), (q1_weight, .inl (C 0, 4096, .inl t1_weight)), (q1_barred, .inl (C 0, 4096, .inl t1_barred)), (q1_needed, .inl (C 0, 4096, .inl t1_needed))] H := hP
            have hD : va_D A [(q, .inr (9, [.ref q_joyAt, .int t_allowedCount])), (q_joyAt, .inl (C 0, 1189, .inl t_joyAt)), (q1_gain, .inl (C 0, 4096, .inl t1_gain)), (q1_joy, .inl (C 0, 4096, .inl t1_joy)), (q1, .inr (0, [.ref q1_weight, .ref q1_gain, .ref q1_joy, .ref q1_barred, .ref q1_needed, .int t1_sets, .int t1_limit, .int t1_mustSet, .int t1_neverSet])), (q1_weight, .inl (C 0, 4096, .inl t1_weight)), (q1_barred, .inl (C 0, 4096, .inl t1_barred)), (q1_needed, .inl (C 0, 4096, .inl t1_needed))] := hD
            refine lv_if_ne (tgt := 78) hx hb dX9_build_47 (by decide) (fun c47 => ?_) (fun c47 => ?_)
            · have hwp := hwp.1 c47
              refine lv_iinc (v := x4 + 1) (lv' := [(4, .int (x4 + 1)), (0, .ref q), (1, .ref q1), (2, .int x2), (3, .int x3)]) hx hb dX9_build_78 hl (k := 4) rfl rfl (by decide) rfl (fun ls hl => ?_)
              refine lv_goto (tgt := 16) hx hb dX9_build_81 (by decide) ?_
              have hl9 := lv_sub (l' := [(0, .ref q), (1, .ref q1), (2, .int x2), (3, .int x3), (4, .int (x4 + 1))]) hl [1, 2, 3, 4, 0] rfl
              have hP9 := hP.sub (ws' := [(q, .inr (9, [.ref q_joyAt, .int t_allowedCount])), (q_joyAt, .inl (C 0, 1189, .inl t_joyAt)), (q1, .inr (0, [.ref q1_weight, .ref q1_gain, .ref q1_joy, .ref q1_barred, .ref q1_needed, .int t1_sets, .int t1_limit, .int t1_mustSet, .int t1_neverSet])), (q1_weight, .inl (C 0, 4096, .inl t1_weight)), (q1_barred, .inl (C 0, 4096, .inl t1_barred)), (q1_needed, .inl (C 0, 4096, .inl t1_needed)), (q1_gain, .inl (C 0, 4096, .inl t1_gain)), (q1_joy, .inl (C 0, 4096, .inl t1_joy))]) [0, 1, 4, 5, 6, 7, 2, 3] rfl
              have hD9 := hD.sub (ws' := [(q, .inr (9, [.ref q_joyAt, .int t_allowedCount])), (q_joyAt, .inl (C 0, 1189, .inl t_joyAt)), (q1, .inr (0, [.ref q1_weight, .ref q1_gain, .ref q1_joy, .ref q1_barred, .ref q1_needed, .int t1_sets, .int t1_limit, .int t1_mustSet, .int t1_neverSet])), (q1_weight, .inl (C 0, 4096, .inl t1_weight)), (q1_barred, .inl (C 0, 4096, .inl t1_barred)), (q1_needed, .inl (C 0, 4096, .inl t1_needed)), (q1_gain, .inl (C 0, 4096, .inl t1_gain)), (q1_joy, .inl (C 0, 4096, .inl t1_joy))]) [0, 1, 4, 5, 6, 7, 2, 3] (by decide) rfl
              exact ih (x4 + 1) t_allowedCount t_joyAt H locs ls hl9 hP9 hD9 hS hwp
            · have hwp := hwp.2 c47
              refine lv_aload_n hx hb dX9_build_50 rfl (lv_at hl 0 rfl) ?_
              refine lv_dup hx hb dX9_build_51 rfl ?_
              refine va_get (D := D) (ci := 9) (v := .int t_allowedCount) (C := RX9) (T := TX9) (N := 2) hx hb hts iwX9 hown hK hP 0 rfl rfl 1 (by decide) (hts (.fieldLink RX9 21 "ParetoDesk$Stairs" "allowedCount" "I") wd_350) (fun _ h9 => h9) rfl dX9_build_52 ?_
              refine lv_iconst (v := 1) hx hb dX9_build_55 (by decide) ?_
              refine lv_iadd hx hb dX9_build_56 ?_
              refine va_put (D := D) (ci := 9) (v := .int (t_allowedCount + (1 : Int32))) (ty := .int) (C := RX9) (T := TX9) (N := 2) hx hb hts iwX9 tyX9 tyX9_ok nmX9 hown hK hP hD hS 0 rfl rfl 1 (by decide) (hts (.fieldLink RX9 21 "ParetoDesk$Stairs" "allowedCount" "I") wd_350) (fun _ h9 => h9) rfl (by decide +kernel) rfl rfl (Nat.le_of_ble_eq_true rfl) dX9_build_57 (fun H locs hP hD hS => ?_)
              have hP : va_P D vwCl [(q, .inr (9, [.ref q_joyAt, .int (t_allowedCount + (1 : Int32))])), (q_joyAt, .inl (C 0, 1189, .inl t_joyAt)), (q1_gain, .inl (C 0, 4096, .inl t1_gain)), (q1_joy, .inl (C 0, 4096, .inl t1_joy)), (q1, .inr (0, [.ref q1_weight, .ref q1_gain, .ref q1_joy, .ref q1_barred, .ref q1_needed, .int t1_sets, .int t1_limit, .int t1_mustSet, .int t1_neverSet])), (q1_weight, .inl (C 0, 4096, .inl t1_weight)), (q1_barred, .inl (C 0, 4096, .inl t1_barred)), (q1_needed, .inl (C 0, 4096, .inl t1_needed))] H := hP
              have hD : va_D A [(q, .inr (9, [.ref q_joyAt, .int (t_allowedCount + (1 : Int32))])), (q_joyAt, .inl (C 0, 1189, .inl t_joyAt)), (q1_gain, .inl (C 0, 4096, .inl t1_gain)), (q1_joy, .inl (C 0, 4096, .inl t1_joy)), (q1, .inr (0, [.ref q1_weight, .ref q1_gain, .ref q1_joy, .ref q1_barred, .ref q1_needed, .int t1_sets, .int t1_limit, .int t1_mustSet, .int t1_neverSet])), (q1_weight, .inl (C 0, 4096, .inl t1_weight)), (q1_barred, .inl (C 0, 4096, .inl t1_barred)), (q1_needed, .inl (C 0, 4096, .inl t1_needed))] := hD
              refine lv_aload_n hx hb dX9_build_60 rfl (lv_at hl 0 rfl) ?_
              refine lv_aload_n hx hb dX9_build_61 rfl (lv_at hl 1 rfl) ?_
              refine va_get (D := D) (ci := 0) (v := .ref q1_gain) (C := RX0) (T := TX0) (N := 9) hx hb hts iwX0 hown hK hP 4 rfl rfl 1 (by decide) (hts (.fieldLink RX9 34 "ParetoDesk$Choices" "gain" "[I") wd_302) (fun _ h9 => h9) rfl dX9_build_62 ?_
              refine lv_iload hx hb dX9_build_65 (lv_at hl 4 rfl) ?_
              obtain ⟨hi67, hwp⟩ := hwp
              refine va_iald (D := D) hx hb hK hP 2 0 rfl rfl hi67 dX9_build_67 ?_
              refine lv_aload_n hx hb dX9_build_68 rfl (lv_at hl 1 rfl) ?_
              refine va_get (D := D) (ci := 0) (v := .ref q1_joy) (C := RX0) (T := TX0) (N := 9) hx hb hts iwX0 hown hK hP 4 rfl rfl 2 (by decide) (hts (.fieldLink RX9 37 "ParetoDesk$Choices" "joy" "[I") wd_308) (fun _ h9 => h9) rfl dX9_build_69 ?_
              refine lv_iload hx hb dX9_build_72 (lv_at hl 4 rfl) ?_
              obtain ⟨hi74, hwp⟩ := hwp
              refine va_iald (D := D) hx hb hK hP 3 0 rfl rfl hi74 dX9_build_74 ?_
              have hPc := hP.sub (ws' := [(q, .inr (9, [.ref q_joyAt, .int (t_allowedCount + (1 : Int32))])), (q_joyAt, .inl (C 0, 1189, .inl t_joyAt))]) [0, 1] rfl
              have hDc := hD.sub (ws' := [(q, .inr (9, [.ref q_joyAt, .int (t_allowedCount + (1 : Int32))])), (q_joyAt, .inl (C 0, 1189, .inl t_joyAt))]) [0, 1] (by decide) rfl
              have hFc := va_free (wc := [(q, .inr (9, [.ref q_joyAt, .int (t_allowedCount + (1 : Int32))])), (q_joyAt, .inl (C 0, 1189, .inl t_joyAt))]) hD hS hA [0, 1] rfl
              refine va_callv (va_runV (As := [.int (t1_gain x4.toNatClampNeg), .int (t1_joy x4.toNatClampNeg)]) (rest := []) ⟨hx, hb, hml, hown, hts⟩ (met_X9_keepGreatest l D C q q_joyAt (t1_gain x4.toNatClampNeg) (t1_joy x4.toNatClampNeg) (t_allowedCount + (1 : Int32)) t_joyAt H.size _ hwp) (cwV 2 hts gc_X9_40 rfl rfl rfl (by decide +kernel) ⟨Nat.le_of_ble_eq_true rfl, Nat.le_of_ble_eq_true rfl⟩) ⟨fun a U g mk q => by obtain ⟨q0, q1, qP, qK, qD⟩ := q; exact ⟨q0, q1, qP, va_K.moved (u := U) (U := U.calling g mk a) (Vm.Alike.refl U.vm) qK, qD⟩, va_recv hK hPc (ci := 9) (q0 := 0) rfl rfl, fun U hU hW => ⟨rfl, by rw [hU], by rw [hU]; exact hPc, va_K.moved hW.alike hK, hDc.weaken (fun _ _ _ _ => trivial)⟩⟩ rfl rfl hl.1 rfl (lv_room (Nat.le_of_ble_eq_true rfl)) dX9_build_75 ⟨Nat.zero_le _, Nat.zero_le _⟩) hS (fun q _ h => hFc q h) hFc (fun u t H1 locs ht hvm hwp hB hz1 hk1 hS => ?_)
              obtain ⟨u75_3, rfl⟩ : ∃ z, z = u := ⟨_, rfl⟩
              obtain ⟨hP1, -, hD1⟩ := hB
              rw [ht] at hP1
              obtain ⟨hP, hD⟩ := va_join (wr := [(q1_gain, .inl (C 0, 4096, .inl t1_gain)), (q1_joy, .inl (C 0, 4096, .inl t1_joy)), (q1, .inr (0, [.ref q1_weight, .ref q1_gain, .ref q1_joy, .ref q1_barred, .ref q1_needed, .int t1_sets, .int t1_limit, .int t1_mustSet, .int t1_neverSet])), (q1_weight, .inl (C 0, 4096, .inl t1_weight)), (q1_barred, .inl (C 0, 4096, .inl t1_barred)), (q1_needed, .inl (C 0, 4096, .inl t1_needed))]) (w1 := [(q, .inr (9, [.ref q_joyAt, .int (t_allowedCount + (1 : Int32))])), (q_joyAt, .inl (C 0, 1189, .inl u75_3))]) hP hD [0, 1] [2, 3, 4, 5, 6, 7] rfl rfl (by decide) (by decide) hk1 hFc hP1 hD1
              generalize H1 = H at hP hS ⊢
              have hP : va_P D vwCl [(q1_gain, .inl (C 0, 4096, .inl t1_gain)), (q1_joy, .inl (C 0, 4096, .inl t1_joy)), (q1, .inr (0, [.ref q1_weight, .ref q1_gain, .ref q1_joy, .ref q1_barred, .ref q1_needed, .int t1_sets, .int t1_limit, .int t1_mustSet, .int t1_neverSet])), (q1_weight, .inl (C 0, 4096, .inl t1_weight)), (q1_barred, .inl (C 0, 4096, .inl t1_barred)), (q1_needed, .inl (C 0, 4096, .inl t1_needed)), (q, .inr (9, [.ref q_joyAt, .int (t_allowedCount + (1 : Int32))])), (q_joyAt, .inl (C 0, 1189, .inl u75_3))] H := hP
              have hD : va_D A [(q1_gain, .inl (C 0, 4096, .inl t1_gain)), (q1_joy, .inl (C 0, 4096, .inl t1_joy)), (q1, .inr (0, [.ref q1_weight, .ref q1_gain, .ref q1_joy, .ref q1_barred, .ref q1_needed, .int t1_sets, .int t1_limit, .int t1_mustSet, .int t1_neverSet])), (q1_weight, .inl (C 0, 4096, .inl t1_weight)), (q1_barred, .inl (C 0, 4096, .inl t1_barred)), (q1_needed, .inl (C 0, 4096, .inl t1_needed)), (q, .inr (9, [.ref q_joyAt, .int (t_allowedCount + (1 : Int32))])), (q_joyAt, .inl (C 0, 1189, .inl u75_3))] := hD
              refine lv_iinc (v := x4 + 1) (lv' := [(4, .int (x4 + 1)), (0, .ref q), (1, .ref q1), (2, .int x2), (3, .int x3)]) hx hb dX9_build_78 hl (k := 4) rfl rfl (by decide) rfl (fun ls hl => ?_)
              refine lv_goto (tgt := 16) hx hb dX9_build_81 (by decide) ?_
              have hl9 := lv_sub (l' := [(0, .ref q), (1, .ref q1), (2, .int x2), (3, .int x3), (4, .int (x4 + 1))]) hl [1, 2, 3, 4, 0] rfl
              have hP9 := hP.sub (ws' := [(q, .inr (9, [.ref q_joyAt, .int (t_allowedCount + (1 : Int32))])), (q_joyAt, .inl (C 0, 1189, .inl u75_3)), (q1, .inr (0, [.ref q1_weight, .ref q1_gain, .ref q1_joy, .ref q1_barred, .ref q1_needed, .int t1_sets, .int t1_limit, .int t1_mustSet, .int t1_neverSet])), (q1_weight, .inl (C 0, 4096, .inl t1_weight)), (q1_barred, .inl (C 0, 4096, .inl t1_barred)), (q1_needed, .inl (C 0, 4096, .inl t1_needed)), (q1_gain, .inl (C 0, 4096, .inl t1_gain)), (q1_joy, .inl (C 0, 4096, .inl t1_joy))]) [6, 7, 2, 3, 4, 5, 0, 1] rfl
              have hD9 := hD.sub (ws' := [(q, .inr (9, [.ref q_joyAt, .int (t_allowedCount + (1 : Int32))])), (q_joyAt, .inl (C 0, 1189, .inl u75_3)), (q1, .inr (0, [.ref q1_weight, .ref q1_gain, .ref q1_joy, .ref q1_barred, .ref q1_needed, .int t1_sets, .int t1_limit, .int t1_mustSet, .int t1_neverSet])), (q1_weight, .inl (C 0, 4096, .inl t1_weight)), (q1_barred, .inl (C 0, 4096, .inl t1_barred)), (q1_needed, .inl (C 0, 4096, .inl t1_needed)), (q1_gain, .inl (C 0, 4096, .inl t1_gain)), (q1_joy, .inl (C 0, 4096, .inl t1_joy))]) [6, 7, 2, 3, 4, 5, 0, 1] (by decide) rfl
              exact ih (x4 + 1) (t_allowedCount + (1 : Int32)) u75_3 H locs ls hl9 hP9 hD9 hS hwp
  unfold wp_X9_build at hwp
  obtain ⟨H, hH⟩ : ∃ H, H = s.heap := ⟨_, rfl⟩
  obtain ⟨locs, hlo⟩ : ∃ z : List Loc, z = [] := ⟨_, rfl⟩
  have hP : va_P D vwCl [(q, .inr (9, [.ref q_joyAt, .int t_allowedCount])), (q_joyAt, .inl (C 0, 1189, .inl t_joyAt)), (q1, .inr (0, [.ref q1_weight, .ref q1_gain, .ref q1_joy, .ref q1_barred, .ref q1_needed, .int t1_sets, .int t1_limit, .int t1_mustSet, .int t1_neverSet])), (q1_weight, .inl (C 0, 4096, .inl t1_weight)), (q1_barred, .inl (C 0, 4096, .inl t1_barred)), (q1_needed, .inl (C 0, 4096, .inl t1_needed)), (q1_gain, .inl (C 0, 4096, .inl t1_gain)), (q1_joy, .inl (C 0, 4096, .inl t1_joy))] H := by rw [hH]; exact hP
  have hD : va_D A [(q, .inr (9, [.ref q_joyAt, .int t_allowedCount])), (q_joyAt, .inl (C 0, 1189, .inl t_joyAt)), (q1, .inr (0, [.ref q1_weight, .ref q1_gain, .ref q1_joy, .ref q1_barred, .ref q1_needed, .int t1_sets, .int t1_limit, .int t1_mustSet, .int t1_neverSet])), (q1_weight, .inl (C 0, 4096, .inl t1_weight)), (q1_barred, .inl (C 0, 4096, .inl t1_barred)), (q1_needed, .inl (C 0, 4096, .inl t1_needed)), (q1_gain, .inl (C 0, 4096, .inl t1_gain)), (q1_joy, .inl (C 0, 4096, .inl t1_joy))] := hD
  have hS : va_S A s.heap H locs := by rw [hH, hlo]; exact hS
  suffices K : W p l e (headSpec ws_X9_build rm_X9_build).room s m ([.ref q, .ref q1, .int p2, .int p3] : List Value).toArray below meth c H locs 0 0 (MQ below (q_X9_build D C q q_joyAt q1 q1_weight q1_gain q1_joy q1_barred q1_needed t1_sets t1_limit t1_mustSet t1_neverSet t1_weight t1_barred t1_needed t1_gain t1_joy Q A) ([.ref q, .ref q1, .int p2, .int p3] : List Value).toArray s 0 0 A) (F0 m 0 ls []) from by rw [hH, hlo] at K; exact K
  refine lv_aload_n hx hb dX9_build_0 rfl (lv_at hl 0 rfl) ?_
  refine va_get (D := D) (ci := 9) (v := .ref q_joyAt) (C := RX9) (T := TX9) (N := 2) hx hb hts iwX9 hown hK hP 0 rfl rfl 0 (by decide) (hts (.fieldLink RX9 9 "ParetoDesk$Stairs" "joyAt" "[I") wd_347) (fun _ h9 => h9) rfl dX9_build_1 ?_
  refine lv_iconst (v := (-1)) hx hb dX9_build_4 (by decide) ?_
  have hPc := hP.sub (ws' := [(q_joyAt, .inl (C 0, 1189, .inl t_joyAt))]) [1] rfl
  have hDc := hD.sub (ws' := [(q_joyAt, .inl (C 0, 1189, .inl t_joyAt))]) [1] (by decide) rfl
  have hFc := va_free (wc := [(q_joyAt, .inl (C 0, 1189, .inl t_joyAt))]) hD hS hA [1] rfl
  refine va_callv (va_runS (As := [.ref q_joyAt, .int (-1 : Int32)]) (rest := []) ⟨hx, hb, hml, hown, hts⟩ (met_J7_fill_53178 l D C q_joyAt (-1 : Int32) t_joyAt H.size _ hwp) (va_cwS 2 hts gc_X9_15 rfl rfl rfl (by decide +kernel) ⟨Nat.le_of_ble_eq_true rfl, Nat.le_of_ble_eq_true rfl⟩) ⟨fun a U g mk q => by obtain ⟨q0, q1, qP, qK, qD⟩ := q; exact ⟨q0, q1, qP, va_K.moved (u := U) (U := U.calling g mk a) (Vm.Alike.refl U.vm) qK, qD⟩, fun U hU hW => ⟨rfl, by rw [hU], by rw [hU]; exact hPc, va_K.moved hW.alike hK, hDc.weaken (fun _ _ _ _ => trivial)⟩⟩ rfl rfl hl.1 rfl (lv_room (Nat.le_of_ble_eq_true rfl)) dX9_build_5 ⟨Nat.zero_le _, Nat.zero_le _⟩) hS (fun q _ h => hFc q h) hFc (fun u t H1 locs ht hvm hwp hB hz1 hk1 hS => ?_)
  obtain ⟨u5_1, rfl⟩ : ∃ z, z = u := ⟨_, rfl⟩
  obtain ⟨hP1, -, hD1⟩ := hB
  rw [ht] at hP1
  obtain ⟨hP, hD⟩ := va_join (wr := [(q, .inr (9, [.ref q_joyAt, .int t_allowedCount])), (q1, .inr (0, [.ref q1_weight, .ref q1_gain, .ref q1_joy, .ref q1_barred, .ref q1_needed, .int t1_sets, .int t1_limit, .int t1_mustSet, .int t1_neverSet])), (q1_weight, .inl (C 0, 4096, .inl t1_weight)), (q1_barred, .inl (C 0, 4096, .inl t1_barred)), (q1_needed, .inl (C 0, 4096, .inl t1_needed)), (q1_gain, .inl (C 0, 4096, .inl t1_gain)), (q1_joy, .inl (C 0, 4096, .inl t1_joy))]) (w1 := [(q_joyAt, .inl (C 0, 1189, .inl u5_1))]) hP hD [1] [0, 2, 3, 4, 5, 6, 7] rfl rfl (by decide) (by decide) hk1 hFc hP1 hD1
  generalize H1 = H at hP hS ⊢
  have hP : va_P D vwCl [(q, .inr (9, [.ref q_joyAt, .int t_allowedCount])), (q1, .inr (0, [.ref q1_weight, .ref q1_gain, .ref q1_joy, .ref q1_barred, .ref q1_needed, .int t1_sets, .int t1_limit, .int t1_mustSet, .int t1_neverSet])), (q1_weight, .inl (C 0, 4096, .inl t1_weight)), (q1_barred, .inl (C 0, 4096, .inl t1_barred)), (q1_needed, .inl (C 0, 4096, .inl t1_needed)), (q1_gain, .inl (C 0, 4096, .inl t1_gain)), (q1_joy, .inl (C 0, 4096, .inl t1_joy)), (q_joyAt, .inl (C 0, 1189, .inl u5_1))] H := hP
  have hD : va_D A [(q, .inr (9, [.ref q_joyAt, .int t_allowedCount])), (q1, .inr (0, [.ref q1_weight, .ref q1_gain, .ref q1_joy, .ref q1_barred, .ref q1_needed, .int t1_sets, .int t1_limit, .int t1_mustSet, .int t1_neverSet])), (q1_weight, .inl (C 0, 4096, .inl t1_weight)), (q1_barred, .inl (C 0, 4096, .inl t1_barred)), (q1_needed, .inl (C 0, 4096, .inl t1_needed)), (q1_gain, .inl (C 0, 4096, .inl t1_gain)), (q1_joy, .inl (C 0, 4096, .inl t1_joy)), (q_joyAt, .inl (C 0, 1189, .inl u5_1))] := hD
  refine lv_aload_n hx hb dX9_build_8 rfl (lv_at hl 0 rfl) ?_
  refine lv_iconst (v := 0) hx hb dX9_build_9 (by decide) ?_
  refine va_put (D := D) (ci := 9) (v := .int (0 : Int32)) (ty := .int) (C := RX9) (T := TX9) (N := 2) hx hb hts iwX9 tyX9 tyX9_ok nmX9 hown hK hP hD hS 0 rfl rfl 1 (by decide) (hts (.fieldLink RX9 21 "ParetoDesk$Stairs" "allowedCount" "I") wd_350) (fun _ h9 => h9) rfl (by decide +kernel) rfl rfl (Nat.le_of_ble_eq_true rfl) dX9_build_10 (fun H locs hP hD hS => ?_)
  have hP : va_P D vwCl [(q, .inr (9, [.ref q_joyAt, .int (0 : Int32)])), (q1, .inr (0, [.ref q1_weight, .ref q1_gain, .ref q1_joy, .ref q1_barred, .ref q1_needed, .int t1_sets, .int t1_limit, .int t1_mustSet, .int t1_neverSet])), (q1_weight, .inl (C 0, 4096, .inl t1_weight)), (q1_barred, .inl (C 0, 4096, .inl t1_barred)), (q1_needed, .inl (C 0, 4096, .inl t1_needed)), (q1_gain, .inl (C 0, 4096, .inl t1_gain)), (q1_joy, .inl (C 0, 4096, .inl t1_joy)), (q_joyAt, .inl (C 0, 1189, .inl u5_1))] H := hP
  have hD : va_D A [(q, .inr (9, [.ref q_joyAt, .int (0 : Int32)])), (q1, .inr (0, [.ref q1_weight, .ref q1_gain, .ref q1_joy, .ref q1_barred, .ref q1_needed, .int t1_sets, .int t1_limit, .int t1_mustSet, .int t1_neverSet])), (q1_weight, .inl (C 0, 4096, .inl t1_weight)), (q1_barred, .inl (C 0, 4096, .inl t1_barred)), (q1_needed, .inl (C 0, 4096, .inl t1_needed)), (q1_gain, .inl (C 0, 4096, .inl t1_gain)), (q1_joy, .inl (C 0, 4096, .inl t1_joy)), (q_joyAt, .inl (C 0, 1189, .inl u5_1))] := hD
  refine lv_iconst (v := 0) hx hb dX9_build_13 (by decide) ?_
  refine lv_istore (lv' := [(4, .int (0 : Int32)), (0, .ref q), (1, .ref q1), (2, .int p2), (3, .int p3)]) hx hb dX9_build_14 hl (by decide) rfl (fun ls hl => ?_)
  have hl9 := lv_sub (l' := [(0, .ref q), (1, .ref q1), (2, .int p2), (3, .int p3), (4, .int (0 : Int32))]) hl [1, 2, 3, 4, 0] rfl
  have hP9 := hP.sub (ws' := [(q, .inr (9, [.ref q_joyAt, .int (0 : Int32)])), (q_joyAt, .inl (C 0, 1189, .inl u5_1)), (q1, .inr (0, [.ref q1_weight, .ref q1_gain, .ref q1_joy, .ref q1_barred, .ref q1_needed, .int t1_sets, .int t1_limit, .int t1_mustSet, .int t1_neverSet])), (q1_weight, .inl (C 0, 4096, .inl t1_weight)), (q1_barred, .inl (C 0, 4096, .inl t1_barred)), (q1_needed, .inl (C 0, 4096, .inl t1_needed)), (q1_gain, .inl (C 0, 4096, .inl t1_gain)), (q1_joy, .inl (C 0, 4096, .inl t1_joy))]) [0, 7, 1, 2, 3, 4, 5, 6] rfl
  have hD9 := hD.sub (ws' := [(q, .inr (9, [.ref q_joyAt, .int (0 : Int32)])), (q_joyAt, .inl (C 0, 1189, .inl u5_1)), (q1, .inr (0, [.ref q1_weight, .ref q1_gain, .ref q1_joy, .ref q1_barred, .ref q1_needed, .int t1_sets, .int t1_limit, .int t1_mustSet, .int t1_neverSet])), (q1_weight, .inl (C 0, 4096, .inl t1_weight)), (q1_barred, .inl (C 0, 4096, .inl t1_barred)), (q1_needed, .inl (C 0, 4096, .inl t1_needed)), (q1_gain, .inl (C 0, 4096, .inl t1_gain)), (q1_joy, .inl (C 0, 4096, .inl t1_joy))]) [0, 7, 1, 2, 3, 4, 5, 6] (by decide) rfl
  obtain ⟨nn9, hwp⟩ := hwp
  refine HL16 p2 p3 nn9 (0 : Int32) (0 : Int32) u5_1 H locs ls hl9 hP9 hD9 hS hwp
abbrev ws_X9_countCorners : List Cond := .code yX9_countCorners cX9_countCorners 3 (some .int) :: WALL
abbrev rm_X9_countCorners : Room := { frames := 0, cells := 0, slots := 0, locals := 0 }
abbrev w_X9_countCorners (C : Nat → ClassId) (q : Nat) (q_joyAt : Nat) (t_allowedCount : Int32) (t_joyAt : Nat → Int32) : va_W := [(q, .inr (9, [.ref q_joyAt, .int t_allowedCount])), (q_joyAt, .inl (C 0, 1189, .inl t_joyAt))]
abbrev q_X9_countCorners (D : va_G) (C : Nat → ClassId) (q : Nat) (q_joyAt : Nat) (t_allowedCount : Int32) (t_joyAt : Nat → Int32) (Q : Int32 → Prop) (A : Nat → Prop) : Array Value → State → Outcome → State → Prop := va_Qi (fun (r : Int32) (u : Unit) => Q r) (fun (u : Unit) (t : State) => va_P D vwCl (w_X9_countCorners C q q_joyAt t_allowedCount t_joyAt) t.heap ∧ va_K D vwCl (tyL C) t ∧ va_D A (w_X9_countCorners C q q_joyAt t_allowedCount t_joyAt)) A
set_option maxHeartbeats 4000000 in
set_option maxRecDepth 100000 in
theorem met_X9_countCorners (l : Launch) (D : va_G) (C : Nat → ClassId) (q : Nat) (q_joyAt : Nat) (t_allowedCount : Int32) (t_joyAt : Nat → Int32) (sz : Nat) (Q : Int32 → Prop) (hwp : wp_X9_countCorners t_joyAt Q) : Met l yX9_countCorners ws_X9_countCorners rm_X9_countCorners (va_Pc [.ref q] (fun U => U.heap.size = sz ∧ va_P D vwCl (w_X9_countCorners C q q_joyAt t_allowedCount t_joyAt) U.heap ∧ va_K D vwCl (tyL C) U ∧ va_D (fun _ => True) (w_X9_countCorners C q q_joyAt t_allowedCount t_joyAt))) (q_X9_countCorners D C q q_joyAt t_allowedCount t_joyAt Q (va_A (w_X9_countCorners C q q_joyAt t_allowedCount t_joyAt) sz)) 0 0 (va_A (w_X9_countCorners C q q_joyAt t_allowedCount t_joyAt) sz) := by
  refine Met.ofW (cc := cX9_countCorners) (maxL := 3) (ret := (some .int)) (by decide) rfl ?_
  intro p e s m args below meth c s₁ B hml hv
  obtain ⟨rfl, hsz, hP, hK, hD0⟩ := hv
  have hx := B.exec
  have hb := B.bytes
  have hr := B.returns
  have hts : ∀ w ∈ WALL, w.before _ s = true := fun w h => atoms_spec (ws := ws_X9_countCorners) B.pre w (List.mem_cons_of_mem _ h)
  have hown : s.vm.findClass RX9 = some m.cls := findClass_of_methodNamed B.named
  have hlocks := B.notSynchronized
  subst hsz
  have hD := hD0.self (sz := s.heap.size)
  generalize hAe : va_A (w_X9_countCorners C q q_joyAt t_allowedCount t_joyAt) s.heap.size = A at hD ⊢
  have hA : ∀ q : Nat, s.heap.size ≤ q → A q := fun q h => by rw [← hAe]; exact Or.inr h
  have hS : va_S A s.heap s.heap [] := va_S.rf
  have hl := lv_entry ([.ref q]) (n := 3) (Nat.le_of_ble_eq_true rfl)
  rw [lg_entry_eq]
  generalize (lg_sl ([.ref q]) ++ List.replicate (3 - (lg_sl ([.ref q])).length) Slot.unset).toArray = ls at hl ⊢
  have hl : lv_has ls 3 [(0, .ref q)] := hl
  have HL4 : ∀  (n4 : Nat) (x1 : Int32) (x2 : Int32) (H : Heap) (locs : List Loc) (ls : Array Slot), lv_has ls 3 [(0, .ref q), (1, .int x1), (2, .int x2)] → va_P D vwCl [(q, .inr (9, [.ref q_joyAt, .int t_allowedCount])), (q_joyAt, .inl (C 0, 1189, .inl t_joyAt))] H → va_D A [(q, .inr (9, [.ref q_joyAt, .int t_allowedCount])), (q_joyAt, .inl (C 0, 1189, .inl t_joyAt))] → va_S A s.heap H locs → wp_X9_countCorners_L4 t_joyAt Q n4 x1 x2 → W p l e (headSpec ws_X9_countCorners rm_X9_countCorners).room s m ([.ref q] : List Value).toArray below meth c H locs 0 0 (MQ below (q_X9_countCorners D C q q_joyAt t_allowedCount t_joyAt Q A) ([.ref q] : List Value).toArray s 0 0 A) (F0 m 4 ls []) := by
    intro  n4
    induction n4 with
    | zero =>
      intro x1 x2 H locs ls hl hP hD hS hwp
      exact False.elim hwp
    | succ n4 ih =>
      intro x1 x2 H locs ls hl hP hD hS hwp
      unfold wp_X9_countCorners_L4 at hwp
      refine lv_iload_n hx hb dX9_countCorners_4 rfl (lv_at hl 2 rfl) ?_
      refine lv_sipush (v := 1189) hx hb dX9_countCorners_5 (by decide) ?_
      refine lv_icmp_ge (tgt := 30) hx hb dX9_countCorners_8 (by decide) (fun c8 => ?_) (fun c8 => ?_)
      · have hwp := hwp.1 c8
        refine lv_iload_n hx hb dX9_countCorners_30 rfl (lv_at hl 1 rfl) ?_
        have hP9 := hP.sub (ws' := [(q, .inr (9, [.ref q_joyAt, .int t_allowedCount])), (q_joyAt, .inl (C 0, 1189, .inl t_joyAt))]) [0, 1] rfl
        have hD9 := hD.sub (ws' := [(q, .inr (9, [.ref q_joyAt, .int t_allowedCount])), (q_joyAt, .inl (C 0, 1189, .inl t_joyAt))]) [0, 1] (by decide) rfl
        exact W.iret (v := x1) hx hb hr (fun t ht hW => ⟨⟨x1, (), rfl, hwp, by rw [ht]; exact hP9, va_K.moved hW.alike hK, hD9⟩, hS.F ht⟩) hS.2.2 dX9_countCorners_31
      · have hwp := hwp.2 c8
        refine lv_aload_n hx hb dX9_countCorners_11 rfl (lv_at hl 0 rfl) ?_
        refine va_get (D := D) (ci := 9) (v := .ref q_joyAt) (C := RX9) (T := TX9) (N := 2) hx hb hts iwX9 hown hK hP 0 rfl rfl 0 (by decide) (hts (.fieldLink RX9 9 "ParetoDesk$Stairs" "joyAt" "[I") wd_347) (fun _ h9 => h9) rfl dX9_countCorners_12 ?_
        refine lv_iload_n hx hb dX9_countCorners_15 rfl (lv_at hl 2 rfl) ?_
        obtain ⟨hi16, hwp⟩ := hwp
        refine va_iald (D := D) hx hb hK hP 1 0 rfl rfl hi16 dX9_countCorners_16 ?_
        refine lv_iconst (v := (-1)) hx hb dX9_countCorners_17 (by decide) ?_
        refine lv_icmp_eq (tgt := 24) hx hb dX9_countCorners_18 (by decide) (fun c18 => ?_) (fun c18 => ?_)
        · have hwp := hwp.1 c18
          refine lv_iinc (v := x2 + 1) (lv' := [(2, .int (x2 + 1)), (0, .ref q), (1, .int x1)]) hx hb dX9_countCorners_24 hl (k := 2) rfl rfl (by decide) rfl (fun ls hl => ?_)
          refine lv_goto (tgt := 4) hx hb dX9_countCorners_27 (by decide) ?_
          have hl9 := lv_sub (l' := [(0, .ref q), (1, .int x1), (2, .int (x2 + 1))]) hl [1, 2, 0] rfl
          have hP9 := hP.sub (ws' := [(q, .inr (9, [.ref q_joyAt, .int t_allowedCount])), (q_joyAt, .inl (C 0, 1189, .inl t_joyAt))]) [0, 1] rfl
          have hD9 := hD.sub (ws' := [(q, .inr (9, [.ref q_joyAt, .int t_allowedCount])), (q_joyAt, .inl (C 0, 1189, .inl t_joyAt))]) [0, 1] (by decide) rfl
          exact ih x1 (x2 + 1) H locs ls hl9 hP9 hD9 hS hwp
        · have hwp := hwp.2 c18
          refine lv_iinc (v := x1 + 1) (lv' := [(1, .int (x1 + 1)), (0, .ref q), (2, .int x2)]) hx hb dX9_countCorners_21 hl (k := 1) rfl rfl (by decide) rfl (fun ls hl => ?_)
          refine lv_iinc (v := x2 + 1) (lv' := [(2, .int (x2 + 1)), (1, .int (x1 + 1)), (0, .ref q)]) hx hb dX9_countCorners_24 hl (k := 2) rfl rfl (by decide) rfl (fun ls hl => ?_)
          refine lv_goto (tgt := 4) hx hb dX9_countCorners_27 (by decide) ?_
          have hl9 := lv_sub (l' := [(0, .ref q), (1, .int (x1 + 1)), (2, .int (x2 + 1))]) hl [2, 1, 0] rfl
          have hP9 := hP.sub (ws' := [(q, .inr (9, [.ref q_joyAt, .int t_allowedCount])), (q_joyAt, .inl (C 0, 1189, .inl t_joyAt))]) [0, 1] rfl
          have hD9 := hD.sub (ws' := [(q, .inr (9, [.ref q_joyAt, .int t_allowedCount])), (q_joyAt, .inl (C 0, 1189, .inl t_joyAt))]) [0, 1] (by decide) rfl
          exact ih (x1 + 1) (x2 + 1) H locs ls hl9 hP9 hD9 hS hwp
  unfold wp_X9_countCorners at hwp
  obtain ⟨H, hH⟩ : ∃ H, H = s.heap := ⟨_, rfl⟩
  obtain ⟨locs, hlo⟩ : ∃ z : List Loc, z = [] := ⟨_, rfl⟩
  have hP : va_P D vwCl [(q, .inr (9, [.ref q_joyAt, .int t_allowedCount])), (q_joyAt, .inl (C 0, 1189, .inl t_joyAt))] H := by rw [hH]; exact hP
  have hD : va_D A [(q, .inr (9, [.ref q_joyAt, .int t_allowedCount])), (q_joyAt, .inl (C 0, 1189, .inl t_joyAt))] := hD
  have hS : va_S A s.heap H locs := by rw [hH, hlo]; exact hS
  suffices K : W p l e (headSpec ws_X9_countCorners rm_X9_countCorners).room s m ([.ref q] : List Value).toArray below meth c H locs 0 0 (MQ below (q_X9_countCorners D C q q_joyAt t_allowedCount t_joyAt Q A) ([.ref q] : List Value).toArray s 0 0 A) (F0 m 0 ls []) from by rw [hH, hlo] at K; exact K
  refine lv_iconst (v := 0) hx hb dX9_countCorners_0 (by decide) ?_
  refine lv_istore_n (lv' := [(1, .int (0 : Int32)), (0, .ref q)]) hx hb dX9_countCorners_1 rfl hl (by decide) rfl (fun ls hl => ?_)
  refine lv_iconst (v := 0) hx hb dX9_countCorners_2 (by decide) ?_
  refine lv_istore_n (lv' := [(2, .int (0 : Int32)), (1, .int (0 : Int32)), (0, .ref q)]) hx hb dX9_countCorners_3 rfl hl (by decide) rfl (fun ls hl => ?_)
  have hl9 := lv_sub (l' := [(0, .ref q), (1, .int (0 : Int32)), (2, .int (0 : Int32))]) hl [2, 1, 0] rfl
  have hP9 := hP.sub (ws' := [(q, .inr (9, [.ref q_joyAt, .int t_allowedCount])), (q_joyAt, .inl (C 0, 1189, .inl t_joyAt))]) [0, 1] rfl
  have hD9 := hD.sub (ws' := [(q, .inr (9, [.ref q_joyAt, .int t_allowedCount])), (q_joyAt, .inl (C 0, 1189, .inl t_joyAt))]) [0, 1] (by decide) rfl
  obtain ⟨nn9, hwp⟩ := hwp
  refine HL4  nn9 (0 : Int32) (0 : Int32) H locs ls hl9 hP9 hD9 hS hwp
abbrev ws_X10_putInput : List Cond := .code yX10_putInput cX10_putInput 3 none :: WALL
abbrev rm_X10_putInput : Room := { frames := 0, cells := 0, slots := 0, locals := 0 }
abbrev w_X10_putInput (C : Nat → ClassId) (q : Nat) (q_input : Nat) (q_parser : Nat) (q_now : Nat) (q_past : Nat) (q_slots : Nat) (q_slotUsed : Nat) (q_output : Nat) (q_choices : Nat) (q_stairs : Nat) (q_frontier : Nat) (q_search : Nat) (q_layering : Nat) (q_climber : Nat) (t_inputLength : Int32) (t_parseCode : Int32) (t_parsePosition : Int32) (t_frontierFresh : Int32) (t_searchFresh : Int32) (t_layersFresh : Int32) (t_input : Nat → Int32) : va_W := [(q, .inr (10, [.ref q_input, .int t_inputLength, .ref q_parser, .int t_parseCode, .int t_parsePosition, .ref q_now, .ref q_past, .ref q_slots, .ref q_slotUsed, .ref q_output, .ref q_choices, .ref q_stairs, .ref q_frontier, .ref q_search, .ref q_layering, .ref q_climber, .int t_frontierFresh, .int t_searchFresh, .int t_layersFresh])), (q_input, .inl (C 1, 600, .inl t_input))]
abbrev q_X10_putInput (D : va_G) (C : Nat → ClassId) (q : Nat) (q_input : Nat) (q_parser : Nat) (q_now : Nat) (q_past : Nat) (q_slots : Nat) (q_slotUsed : Nat) (q_output : Nat) (q_choices : Nat) (q_stairs : Nat) (q_frontier : Nat) (q_search : Nat) (q_layering : Nat) (q_climber : Nat) (t_parseCode : Int32) (t_parsePosition : Int32) (t_frontierFresh : Int32) (t_searchFresh : Int32) (t_layersFresh : Int32) (Q : Int32 → (Nat → Int32) → Prop) (A : Nat → Prop) : Array Value → State → Outcome → State → Prop := va_Qv (fun (u : Int32 × (Nat → Int32)) => Q u.1 u.2) (fun (u : Int32 × (Nat → Int32)) (t : State) => va_P D vwCl (w_X10_putInput C q q_input q_parser q_now q_past q_slots q_slotUsed q_output q_choices q_stairs q_frontier q_search q_layering q_climber u.1 t_parseCode t_parsePosition t_frontierFresh t_searchFresh t_layersFresh u.2) t.heap ∧ va_K D vwCl (tyL C) t ∧ va_D A (w_X10_putInput C q q_input q_parser q_now q_past q_slots q_slotUsed q_output q_choices q_stairs q_frontier q_search q_layering q_climber u.1 t_parseCode t_parsePosition t_frontierFresh t_searchFresh t_layersFresh u.2)) A
set_option maxHeartbeats 4000000 in
set_option maxRecDepth 100000 in
theorem met_X10_putInput (l : Launch) (D : va_G) (C : Nat → ClassId) (q : Nat) (q_input : Nat) (q_parser : Nat) (q_now : Nat) (q_past : Nat) (q_slots : Nat) (q_slotUsed : Nat) (q_output : Nat) (q_choices : Nat) (q_stairs : Nat) (q_frontier : Nat) (q_search : Nat) (q_layering : Nat) (q_climber : Nat) (p1 : Int32) (t_inputLength : Int32) (t_parseCode : Int32) (t_parsePosition : Int32) (t_frontierFresh : Int32) (t_searchFresh : Int32) (t_layersFresh : Int32) (t_input : Nat → Int32) (sz : Nat) (Q : Int32 → (Nat → Int32) → Prop) (hwp : wp_X10_putInput p1 t_inputLength t_input Q) : Met l yX10_putInput ws_X10_putInput rm_X10_putInput (va_Pc [.ref q, .int p1] (fun U => U.heap.size = sz ∧ va_P D vwCl (w_X10_putInput C q q_input q_parser q_now q_past q_slots q_slotUsed q_output q_choices q_stairs q_frontier q_search q_layering q_climber t_inputLength t_parseCode t_parsePosition t_frontierFresh t_searchFresh t_layersFresh t_input) U.heap ∧ va_K D vwCl (tyL C) U ∧ va_D (fun _ => True) (w_X10_putInput C q q_input q_parser q_now q_past q_slots q_slotUsed q_output q_choices q_stairs q_frontier q_search q_layering q_climber t_inputLength t_parseCode t_parsePosition t_frontierFresh t_searchFresh t_layersFresh t_input))) (q_X10_putInput D C q q_input q_parser q_now q_past q_slots q_slotUsed q_output q_choices q_stairs q_frontier q_search q_layering q_climber t_parseCode t_parsePosition t_frontierFresh t_searchFresh t_layersFresh Q (va_A (w_X10_putInput C q q_input q_parser q_now q_past q_slots q_slotUsed q_output q_choices q_stairs q_frontier q_search q_layering q_climber t_inputLength t_parseCode t_parsePosition t_frontierFresh t_searchFresh t_layersFresh t_input) sz)) 0 0 (va_A (w_X10_putInput C q q_input q_parser q_now q_past q_slots q_slotUsed q_output q_choices q_stairs q_frontier q_search q_layering q_climber t_inputLength t_parseCode t_parsePosition t_frontierFresh t_searchFresh t_layersFresh t_input) sz) := by
  refine Met.ofW (cc := cX10_putInput) (maxL := 3) (ret := none) (by decide) rfl ?_
  intro p e s m args below meth c s₁ B hml hv
  obtain ⟨rfl, hsz, hP, hK, hD0⟩ := hv
  have hx := B.exec
  have hb := B.bytes
  have hr := B.returns
  have hts : ∀ w ∈ WALL, w.before _ s = true := fun w h => atoms_spec (ws := ws_X10_putInput) B.pre w (List.mem_cons_of_mem _ h)
  have hown : s.vm.findClass RX10 = some m.cls := findClass_of_methodNamed B.named
  have hlocks := B.notSynchronized
  subst hsz
  have hD := hD0.self (sz := s.heap.size)
  generalize hAe : va_A (w_X10_putInput C q q_input q_parser q_now q_past q_slots q_slotUsed q_output q_choices q_stairs q_frontier q_search q_layering q_climber t_inputLength t_parseCode t_parsePosition t_frontierFresh t_searchFresh t_layersFresh t_input) s.heap.size = A at hD ⊢
  have hA : ∀ q : Nat, s.heap.size ≤ q → A q := fun q h => by rw [← hAe]; exact Or.inr h
  have hS : va_S A s.heap s.heap [] := va_S.rf
  have hl := lv_entry ([.ref q, .int p1]) (n := 3) (Nat.le_of_ble_eq_true rfl)
  rw [lg_entry_eq]
  generalize (lg_sl ([.ref q, .int p1]) ++ List.replicate (3 - (lg_sl ([.ref q, .int p1])).length) Slot.unset).toArray = ls at hl ⊢
  have hl : lv_has ls 3 [(0, .ref q), (1, .int p1)] := hl
  have HL3 : ∀ (x1 : Int32) (n3 : Nat) (x2 : Int32) (t_inputLength : Int32) (t_input : Nat → Int32) (H : Heap) (locs : List Loc) (ls : Array Slot), lv_has ls 3 [(0, .ref q), (1, .int x1), (2, .int x2)] → va_P D vwCl [(q, .inr (10, [.ref q_input, .int t_inputLength, .ref q_parser, .int t_parseCode, .int t_parsePosition, .ref q_now, .ref q_past, .ref q_slots, .ref q_slotUsed, .ref q_output, .ref q_choices, .ref q_stairs, .ref q_frontier, .ref q_search, .ref q_layering, .ref q_climber, .int t_frontierFresh, .int t_searchFresh, .int t_layersFresh])), (q_input, .inl (C 1, 600, .inl t_input))] H → va_D A [(q, .inr (10, [.ref q_input, .int t_inputLength, .ref q_parser, .int t_parseCode, .int t_parsePosition, .ref q_now, .ref q_past, .ref q_slots, .ref q_slotUsed, .ref q_output, .ref q_choices, .ref q_stairs, .ref q_frontier, .ref q_search, .ref q_layering, .ref q_climber, .int t_frontierFresh, .int t_searchFresh, .int t_layersFresh])), (q_input, .inl (C 1, 600, .inl t_input))] → va_S A s.heap H locs → wp_X10_putInput_L3 x1 Q n3 x2 t_inputLength t_input → W p l e (headSpec ws_X10_putInput rm_X10_putInput).room s m ([.ref q, .int p1] : List Value).toArray below meth c H locs 0 0 (MQ below (q_X10_putInput D C q q_input q_parser q_now q_past q_slots q_slotUsed q_output q_choices q_stairs q_frontier q_search q_layering q_climber t_parseCode t_parsePosition t_frontierFresh t_searchFresh t_layersFresh Q A) ([.ref q, .int p1] : List Value).toArray s 0 0 A) (F0 m 3 ls []) := by
    intro x1 n3
    induction n3 with
    | zero =>
      intro x2 t_inputLength t_input H locs ls hl hP hD hS hwp
      exact False.elim hwp
    | succ n3 ih =>
      intro x2 t_inputLength t_input H locs ls hl hP hD hS hwp
      unfold wp_X10_putInput_L3 at hwp
      refine lv_iload_n hx hb dX10_putInput_3 rfl (lv_at hl 2 rfl) ?_
      refine lv_if_lt (tgt := 46) hx hb dX10_putInput_4 (by decide) (fun c4 => ?_) (fun c4 => ?_)
      · have hwp := hwp.1 c4
        have hP9 := hP.sub (ws' := [(q, .inr (10, [.ref q_input, .int t_inputLength, .ref q_parser, .int t_parseCode, .int t_parsePosition, .ref q_now, .ref q_past, .ref q_slots, .ref q_slotUsed, .ref q_output, .ref q_choices, .ref q_stairs, .ref q_frontier, .ref q_search, .ref q_layering, .ref q_climber, .int t_frontierFresh, .int t_searchFresh, .int t_layersFresh])), (q_input, .inl (C 1, 600, .inl t_input))]) [0, 1] rfl
        have hD9 := hD.sub (ws' := [(q, .inr (10, [.ref q_input, .int t_inputLength, .ref q_parser, .int t_parseCode, .int t_parsePosition, .ref q_now, .ref q_past, .ref q_slots, .ref q_slotUsed, .ref q_output, .ref q_choices, .ref q_stairs, .ref q_frontier, .ref q_search, .ref q_layering, .ref q_climber, .int t_frontierFresh, .int t_searchFresh, .int t_layersFresh])), (q_input, .inl (C 1, 600, .inl t_input))]) [0, 1] (by decide) rfl
        exact W.vret hx hb hr (fun t ht hW => ⟨⟨(t_inputLength, t_input), rfl, hwp, by rw [ht]; exact hP9, va_K.moved hW.alike hK, hD9⟩, hS.F ht⟩) hS.2.2 dX10_putInput_46
      · have hwp := hwp.2 c4
        refine lv_aload_n hx hb dX10_putInput_7 rfl (lv_at hl 0 rfl) ?_
        refine va_get (D := D) (ci := 10) (v := .int t_inputLength) (C := RX10) (T := TX10) (N := 19) hx hb hts iwX10 hown hK hP 0 rfl rfl 1 (by decide) (hts (.fieldLink RX10 95 "ParetoDesk" "inputLength" "I") wd_494) (fun _ h9 => h9) rfl dX10_putInput_8 ?_
        refine lv_sipush (v := 600) hx hb dX10_putInput_11 (by decide) ?_
        refine lv_icmp_ge (tgt := 40) hx hb dX10_putInput_14 (by decide) (fun c14 => ?_) (fun c14 => ?_)
        · have hwp := hwp.1 c14
          refine lv_iinc (v := x2 + (-8)) (lv' := [(2, .int (x2 + (-8))), (0, .ref q), (1, .int x1)]) hx hb dX10_putInput_40 hl (k := 2) rfl rfl (by decide) rfl (fun ls hl => ?_)
          refine lv_goto (tgt := 3) hx hb dX10_putInput_43 (by decide) ?_
          have hl9 := lv_sub (l' := [(0, .ref q), (1, .int x1), (2, .int (x2 + (-8)))]) hl [1, 2, 0] rfl
          have hP9 := hP.sub (ws' := [(q, .inr (10, [.ref q_input, .int t_inputLength, .ref q_parser, .int t_parseCode, .int t_parsePosition, .ref q_now, .ref q_past, .ref q_slots, .ref q_slotUsed, .ref q_output, .ref q_choices, .ref q_stairs, .ref q_frontier, .ref q_search, .ref q_layering, .ref q_climber, .int t_frontierFresh, .int t_searchFresh, .int t_layersFresh])), (q_input, .inl (C 1, 600, .inl t_input))]) [0, 1] rfl
          have hD9 := hD.sub (ws' := [(q, .inr (10, [.ref q_input, .int t_inputLength, .ref q_parser, .int t_parseCode, .int t_parsePosition, .ref q_now, .ref q_past, .ref q_slots, .ref q_slotUsed, .ref q_output, .ref q_choices, .ref q_stairs, .ref q_frontier, .ref q_search, .ref q_layering, .ref q_climber, .int t_frontierFresh, .int t_searchFresh, .int t_layersFresh])), (q_input, .inl (C 1, 600, .inl t_input))]) [0, 1] (by decide) rfl
          exact ih (x2 + (-8)) t_inputLength t_input H locs ls hl9 hP9 hD9 hS hwp
        · have hwp := hwp.2 c14
          refine lv_aload_n hx hb dX10_putInput_17 rfl (lv_at hl 0 rfl) ?_
          refine va_get (D := D) (ci := 10) (v := .ref q_input) (C := RX10) (T := TX10) (N := 19) hx hb hts iwX10 hown hK hP 0 rfl rfl 0 (by decide) (hts (.fieldLink RX10 9 "ParetoDesk" "input" "[B") wd_493) (fun _ h9 => h9) rfl dX10_putInput_18 ?_
          refine lv_aload_n hx hb dX10_putInput_21 rfl (lv_at hl 0 rfl) ?_
          refine va_get (D := D) (ci := 10) (v := .int t_inputLength) (C := RX10) (T := TX10) (N := 19) hx hb hts iwX10 hown hK hP 0 rfl rfl 1 (by decide) (hts (.fieldLink RX10 95 "ParetoDesk" "inputLength" "I") wd_494) (fun _ h9 => h9) rfl dX10_putInput_22 ?_
          refine lv_iload_n hx hb dX10_putInput_25 rfl (lv_at hl 1 rfl) ?_
          refine lv_iload_n hx hb dX10_putInput_26 rfl (lv_at hl 2 rfl) ?_
          refine lv_ishr hx hb dX10_putInput_27 ?_
          refine lv_i2b (v := (x1 >>> (x2 &&& 31)).toInt8.toInt32) hx hb dX10_putInput_28 rfl ?_
          obtain ⟨hi29, hwp⟩ := hwp
          refine va_bast (D := D) hx hb hK hP hD hS 1 1 rfl rfl hi29 dX10_putInput_29 (fun H locs hP hD hS => ?_)
          have hP : va_P D vwCl [(q, .inr (10, [.ref q_input, .int t_inputLength, .ref q_parser, .int t_parseCode, .int t_parsePosition, .ref q_now, .ref q_past, .ref q_slots, .ref q_slotUsed, .ref q_output, .ref q_choices, .ref q_stairs, .ref q_frontier, .ref q_search, .ref q_layering, .ref q_climber, .int t_frontierFresh, .int t_searchFresh, .int t_layersFresh])), (q_input, .inl (C 1, 600, .inl (upd t_input t_inputLength.toNatClampNeg (vp_nar .byte ((x1 >>> (x2 &&& 31)).toInt8.toInt32)))))] H := hP
          have hD : va_D A [(q, .inr (10, [.ref q_input, .int t_inputLength, .ref q_parser, .int t_parseCode, .int t_parsePosition, .ref q_now, .ref q_past, .ref q_slots, .ref q_slotUsed, .ref q_output, .ref q_choices, .ref q_stairs, .ref q_frontier, .ref q_search, .ref q_layering, .ref q_climber, .int t_frontierFresh, .int t_searchFresh, .int t_layersFresh])), (q_input, .inl (C 1, 600, .inl (upd t_input t_inputLength.toNatClampNeg (vp_nar .byte ((x1 >>> (x2 &&& 31)).toInt8.toInt32)))))] := hD
          refine lv_aload_n hx hb dX10_putInput_30 rfl (lv_at hl 0 rfl) ?_
          refine lv_dup hx hb dX10_putInput_31 rfl ?_
          refine va_get (D := D) (ci := 10) (v := .int t_inputLength) (C := RX10) (T := TX10) (N := 19) hx hb hts iwX10 hown hK hP 0 rfl rfl 1 (by decide) (hts (.fieldLink RX10 95 "ParetoDesk" "inputLength" "I") wd_494) (fun _ h9 => h9) rfl dX10_putInput_32 ?_
          refine lv_iconst (v := 1) hx hb dX10_putInput_35 (by decide) ?_
          refine lv_iadd hx hb dX10_putInput_36 ?_
          refine va_put (D := D) (ci := 10) (v := .int (t_inputLength + (1 : Int32))) (ty := .int) (C := RX10) (T := TX10) (N := 19) hx hb hts iwX10 tyX10 tyX10_ok nmX10 hown hK hP hD hS 0 rfl rfl 1 (by decide) (hts (.fieldLink RX10 95 "ParetoDesk" "inputLength" "I") wd_494) (fun _ h9 => h9) rfl (by decide +kernel) rfl rfl (Nat.le_of_ble_eq_true rfl) dX10_putInput_37 (fun H locs hP hD hS => ?_)
          have hP : va_P D vwCl [(q, .inr (10, [.ref q_input, .int (t_inputLength + (1 : Int32)), .ref q_parser, .int t_parseCode, .int t_parsePosition, .ref q_now, .ref q_past, .ref q_slots, .ref q_slotUsed, .ref q_output, .ref q_choices, .ref q_stairs, .ref q_frontier, .ref q_search, .ref q_layering, .ref q_climber, .int t_frontierFresh, .int t_searchFresh, .int t_layersFresh])), (q_input, .inl (C 1, 600, .inl (upd t_input t_inputLength.toNatClampNeg (vp_nar .byte ((x1 >>> (x2 &&& 31)).toInt8.toInt32)))))] H := hP
          have hD : va_D A [(q, .inr (10, [.ref q_input, .int (t_inputLength + (1 : Int32)), .ref q_parser, .int t_parseCode, .int t_parsePosition, .ref q_now, .ref q_past, .ref q_slots, .ref q_slotUsed, .ref q_output, .ref q_choices, .ref q_stairs, .ref q_frontier, .ref q_search, .ref q_layering, .ref q_climber, .int t_frontierFresh, .int t_searchFresh, .int t_layersFresh])), (q_input, .inl (C 1, 600, .inl (upd t_input t_inputLength.toNatClampNeg (vp_nar .byte ((x1 >>> (x2 &&& 31)).toInt8.toInt32)))))] := hD
          refine lv_iinc (v := x2 + (-8)) (lv' := [(2, .int (x2 + (-8))), (0, .ref q), (1, .int x1)]) hx hb dX10_putInput_40 hl (k := 2) rfl rfl (by decide) rfl (fun ls hl => ?_)
          refine lv_goto (tgt := 3) hx hb dX10_putInput_43 (by decide) ?_
          have hl9 := lv_sub (l' := [(0, .ref q), (1, .int x1), (2, .int (x2 + (-8)))]) hl [1, 2, 0] rfl
          have hP9 := hP.sub (ws' := [(q, .inr (10, [.ref q_input, .int (t_inputLength + (1 : Int32)), .ref q_parser, .int t_parseCode, .int t_parsePosition, .ref q_now, .ref q_past, .ref q_slots, .ref q_slotUsed, .ref q_output, .ref q_choices, .ref q_stairs, .ref q_frontier, .ref q_search, .ref q_layering, .ref q_climber, .int t_frontierFresh, .int t_searchFresh, .int t_layersFresh])), (q_input, .inl (C 1, 600, .inl (upd t_input t_inputLength.toNatClampNeg (vp_nar .byte ((x1 >>> (x2 &&& 31)).toInt8.toInt32)))))]) [0, 1] rfl
          have hD9 := hD.sub (ws' := [(q, .inr (10, [.ref q_input, .int (t_inputLength + (1 : Int32)), .ref q_parser, .int t_parseCode, .int t_parsePosition, .ref q_now, .ref q_past, .ref q_slots, .ref q_slotUsed, .ref q_output, .ref q_choices, .ref q_stairs, .ref q_frontier, .ref q_search, .ref q_layering, .ref q_climber, .int t_frontierFresh, .int t_searchFresh, .int t_layersFresh])), (q_input, .inl (C 1, 600, .inl (upd t_input t_inputLength.toNatClampNeg (vp_nar .byte ((x1 >>> (x2 &&& 31)).toInt8.toInt32)))))]) [0, 1] (by decide) rfl
          exact ih (x2 + (-8)) (t_inputLength + (1 : Int32)) (upd t_input t_inputLength.toNatClampNeg (vp_nar .byte ((x1 >>> (x2 &&& 31)).toInt8.toInt32))) H locs ls hl9 hP9 hD9 hS hwp
  unfold wp_X10_putInput at hwp
  obtain ⟨H, hH⟩ : ∃ H, H = s.heap := ⟨_, rfl⟩
  obtain ⟨locs, hlo⟩ : ∃ z : List Loc, z = [] := ⟨_, rfl⟩
  have hP : va_P D vwCl [(q, .inr (10, [.ref q_input, .int t_inputLength, .ref q_parser, .int t_parseCode, .int t_parsePosition, .ref q_now, .ref q_past, .ref q_slots, .ref q_slotUsed, .ref q_output, .ref q_choices, .ref q_stairs, .ref q_frontier, .ref q_search, .ref q_layering, .ref q_climber, .int t_frontierFresh, .int t_searchFresh, .int t_layersFresh])), (q_input, .inl (C 1, 600, .inl t_input))] H := by rw [hH]; exact hP
  have hD : va_D A [(q, .inr (10, [.ref q_input, .int t_inputLength, .ref q_parser, .int t_parseCode, .int t_parsePosition, .ref q_now, .ref q_past, .ref q_slots, .ref q_slotUsed, .ref q_output, .ref q_choices, .ref q_stairs, .ref q_frontier, .ref q_search, .ref q_layering, .ref q_climber, .int t_frontierFresh, .int t_searchFresh, .int t_layersFresh])), (q_input, .inl (C 1, 600, .inl t_input))] := hD
  have hS : va_S A s.heap H locs := by rw [hH, hlo]; exact hS
  suffices K : W p l e (headSpec ws_X10_putInput rm_X10_putInput).room s m ([.ref q, .int p1] : List Value).toArray below meth c H locs 0 0 (MQ below (q_X10_putInput D C q q_input q_parser q_now q_past q_slots q_slotUsed q_output q_choices q_stairs q_frontier q_search q_layering q_climber t_parseCode t_parsePosition t_frontierFresh t_searchFresh t_layersFresh Q A) ([.ref q, .int p1] : List Value).toArray s 0 0 A) (F0 m 0 ls []) from by rw [hH, hlo] at K; exact K
  refine lv_bipush (v := 24) hx hb dX10_putInput_0 (by decide) ?_
  refine lv_istore_n (lv' := [(2, .int (24 : Int32)), (0, .ref q), (1, .int p1)]) hx hb dX10_putInput_2 rfl hl (by decide) rfl (fun ls hl => ?_)
  have hl9 := lv_sub (l' := [(0, .ref q), (1, .int p1), (2, .int (24 : Int32))]) hl [1, 2, 0] rfl
  have hP9 := hP.sub (ws' := [(q, .inr (10, [.ref q_input, .int t_inputLength, .ref q_parser, .int t_parseCode, .int t_parsePosition, .ref q_now, .ref q_past, .ref q_slots, .ref q_slotUsed, .ref q_output, .ref q_choices, .ref q_stairs, .ref q_frontier, .ref q_search, .ref q_layering, .ref q_climber, .int t_frontierFresh, .int t_searchFresh, .int t_layersFresh])), (q_input, .inl (C 1, 600, .inl t_input))]) [0, 1] rfl
  have hD9 := hD.sub (ws' := [(q, .inr (10, [.ref q_input, .int t_inputLength, .ref q_parser, .int t_parseCode, .int t_parsePosition, .ref q_now, .ref q_past, .ref q_slots, .ref q_slotUsed, .ref q_output, .ref q_choices, .ref q_stairs, .ref q_frontier, .ref q_search, .ref q_layering, .ref q_climber, .int t_frontierFresh, .int t_searchFresh, .int t_layersFresh])), (q_input, .inl (C 1, 600, .inl t_input))]) [0, 1] (by decide) rfl
  obtain ⟨nn9, hwp⟩ := hwp
  refine HL3 p1 nn9 (24 : Int32) t_inputLength t_input H locs ls hl9 hP9 hD9 hS hwp
abbrev ws_X10_append : List Cond := .code yX10_append cX10_append 6 (some .int) :: WALL
theorem gc_X10_105 : GoodIn WALL (wsV RX10 105 RX10 yX10_putInput ws_X10_putInput) := gc_v wd_1039 wd_1041 wd_32 wd_113 wd_1042
abbrev rm_X10_append : Room := { frames := 6, cells := 1, slots := 6, locals := 90 }
abbrev w_X10_append (C : Nat → ClassId) (q : Nat) (q_input : Nat) (q_parser : Nat) (q_now : Nat) (q_past : Nat) (q_slots : Nat) (q_slotUsed : Nat) (q_output : Nat) (q_choices : Nat) (q_stairs : Nat) (q_frontier : Nat) (q_search : Nat) (q_layering : Nat) (q_climber : Nat) (t_inputLength : Int32) (t_parseCode : Int32) (t_parsePosition : Int32) (t_frontierFresh : Int32) (t_searchFresh : Int32) (t_layersFresh : Int32) (t_input : Nat → Int32) : va_W := [(q, .inr (10, [.ref q_input, .int t_inputLength, .ref q_parser, .int t_parseCode, .int t_parsePosition, .ref q_now, .ref q_past, .ref q_slots, .ref q_slotUsed, .ref q_output, .ref q_choices, .ref q_stairs, .ref q_frontier, .ref q_search, .ref q_layering, .ref q_climber, .int t_frontierFresh, .int t_searchFresh, .int t_layersFresh])), (q_input, .inl (C 1, 600, .inl t_input))]
abbrev q_X10_append (D : va_G) (C : Nat → ClassId) (q : Nat) (q_input : Nat) (q_parser : Nat) (q_now : Nat) (q_past : Nat) (q_slots : Nat) (q_slotUsed : Nat) (q_output : Nat) (q_choices : Nat) (q_stairs : Nat) (q_frontier : Nat) (q_search : Nat) (q_layering : Nat) (q_climber : Nat) (t_parseCode : Int32) (t_parsePosition : Int32) (t_frontierFresh : Int32) (t_searchFresh : Int32) (t_layersFresh : Int32) (Q : Int32 → Int32 → (Nat → Int32) → Prop) (A : Nat → Prop) : Array Value → State → Outcome → State → Prop := va_Qi (fun (r : Int32) (u : Int32 × (Nat → Int32)) => Q r u.1 u.2) (fun (u : Int32 × (Nat → Int32)) (t : State) => va_P D vwCl (w_X10_append C q q_input q_parser q_now q_past q_slots q_slotUsed q_output q_choices q_stairs q_frontier q_search q_layering q_climber u.1 t_parseCode t_parsePosition t_frontierFresh t_searchFresh t_layersFresh u.2) t.heap ∧ va_K D vwCl (tyL C) t ∧ va_D A (w_X10_append C q q_input q_parser q_now q_past q_slots q_slotUsed q_output q_choices q_stairs q_frontier q_search q_layering q_climber u.1 t_parseCode t_parsePosition t_frontierFresh t_searchFresh t_layersFresh u.2)) A
abbrev x_X10_append (D : va_G) (C : Nat → ClassId) (q : Nat) (q_input : Nat) (q_parser : Nat) (q_now : Nat) (q_past : Nat) (q_slots : Nat) (q_slotUsed : Nat) (q_output : Nat) (q_choices : Nat) (q_stairs : Nat) (q_frontier : Nat) (q_search : Nat) (q_layering : Nat) (q_climber : Nat) (t_parseCode : Int32) (t_parsePosition : Int32) (t_frontierFresh : Int32) (t_searchFresh : Int32) (t_layersFresh : Int32) (QX : String → Int32 → (Nat → Int32) → Prop) (A : Nat → Prop) : String → State → State → Prop := vx_X (fun (_ : Int32 × (Nat → Int32)) => True) (fun (E : String) (u : Int32 × (Nat → Int32)) (t : State) => QX E u.1 u.2 ∧ va_P D vwCl (w_X10_append C q q_input q_parser q_now q_past q_slots q_slotUsed q_output q_choices q_stairs q_frontier q_search q_layering q_climber u.1 t_parseCode t_parsePosition t_frontierFresh t_searchFresh t_layersFresh u.2) t.heap ∧ va_K D vwCl (tyL C) t ∧ va_D A (w_X10_append C q q_input q_parser q_now q_past q_slots q_slotUsed q_output q_choices q_stairs q_frontier q_search q_layering q_climber u.1 t_parseCode t_parsePosition t_frontierFresh t_searchFresh t_layersFresh u.2)) A
set_option maxHeartbeats 4000000 in
set_option maxRecDepth 100000 in
theorem met_X10_append (l : Launch) (hst : l.stackTraces = false) (D : va_G) (C : Nat → ClassId) (q : Nat) (q_input : Nat) (q_parser : Nat) (q_now : Nat) (q_past : Nat) (q_slots : Nat) (q_slotUsed : Nat) (q_output : Nat) (q_choices : Nat) (q_stairs : Nat) (q_frontier : Nat) (q_search : Nat) (q_layering : Nat) (q_climber : Nat) (p1 : Int32) (p2 : Int32) (p3 : Int32) (p4 : Int32) (p5 : Int32) (t_inputLength : Int32) (t_parseCode : Int32) (t_parsePosition : Int32) (t_frontierFresh : Int32) (t_searchFresh : Int32) (t_layersFresh : Int32) (t_input : Nat → Int32) (sz : Nat) (Q : Int32 → Int32 → (Nat → Int32) → Prop) (QX : String → Int32 → (Nat → Int32) → Prop) (hwp : wp_X10_append p1 p2 p3 p4 p5 t_inputLength t_input Q QX) : vx_Met l yX10_append ws_X10_append rm_X10_append (va_Pc [.ref q, .int p1, .int p2, .int p3, .int p4, .int p5] (fun U => U.heap.size = sz ∧ va_P D vwCl (w_X10_append C q q_input q_parser q_now q_past q_slots q_slotUsed q_output q_choices q_stairs q_frontier q_search q_layering q_climber t_inputLength t_parseCode t_parsePosition t_frontierFresh t_searchFresh t_layersFresh t_input) U.heap ∧ va_K D vwCl (tyL C) U ∧ va_D (fun _ => True) (w_X10_append C q q_input q_parser q_now q_past q_slots q_slotUsed q_output q_choices q_stairs q_frontier q_search q_layering q_climber t_inputLength t_parseCode t_parsePosition t_frontierFresh t_searchFresh t_layersFresh t_input) ∧ TX (va_A (w_X10_append C q q_input q_parser q_now q_past q_slots q_slotUsed q_output q_choices q_stairs q_frontier q_search q_layering q_climber t_inputLength t_parseCode t_parsePosition t_frontierFresh t_searchFresh t_layersFresh t_input) sz) U U.heap)) (q_X10_append D C q q_input q_parser q_now q_past q_slots q_slotUsed q_output q_choices q_stairs q_frontier q_search q_layering q_climber t_parseCode t_parsePosition t_frontierFresh t_searchFresh t_layersFresh Q (va_A (w_X10_append C q q_input q_parser q_now q_past q_slots q_slotUsed q_output q_choices q_stairs q_frontier q_search q_layering q_climber t_inputLength t_parseCode t_parsePosition t_frontierFresh t_searchFresh t_layersFresh t_input) sz)) (x_X10_append D C q q_input q_parser q_now q_past q_slots q_slotUsed q_output q_choices q_stairs q_frontier q_search q_layering q_climber t_parseCode t_parsePosition t_frontierFresh t_searchFresh t_layersFresh QX (va_A (w_X10_append C q q_input q_parser q_now q_past q_slots q_slotUsed q_output q_choices q_stairs q_frontier q_search q_layering q_climber t_inputLength t_parseCode t_parsePosition t_frontierFresh t_searchFresh t_layersFresh t_input) sz)) 1 6 (va_A (w_X10_append C q q_input q_parser q_now q_past q_slots q_slotUsed q_output q_choices q_stairs q_frontier q_search q_layering q_climber t_inputLength t_parseCode t_parsePosition t_frontierFresh t_searchFresh t_layersFresh t_input) sz) := by
  refine vx_ofW (cc := cX10_append) (maxL := 6) (ret := (some .int)) (by decide) rfl ?_
  intro p e s m args below meth c s₁ B hml htab hv
  obtain ⟨rfl, hsz, hP, hK, hD0, hT⟩ := hv
  have hx := B.exec
  have hb := B.bytes
  have hr := B.returns
  have hts : ∀ w ∈ WALL, w.before _ s = true := fun w h => atoms_spec (ws := ws_X10_append) B.pre w (List.mem_cons_of_mem _ h)
  have hown : s.vm.findClass RX10 = some m.cls := findClass_of_methodNamed B.named
  have hlocks := B.notSynchronized
  subst hsz
  have hD := hD0.self (sz := s.heap.size)
  generalize hAe : va_A (w_X10_append C q q_input q_parser q_now q_past q_slots q_slotUsed q_output q_choices q_stairs q_frontier q_search q_layering q_climber t_inputLength t_parseCode t_parsePosition t_frontierFresh t_searchFresh t_layersFresh t_input) s.heap.size = A at hD ⊢ hT
  have hA : ∀ q : Nat, s.heap.size ≤ q → A q := fun q h => by rw [← hAe]; exact Or.inr h
  have hS : va_S A s.heap s.heap [] := va_S.rf
  have hl := lv_entry ([.ref q, .int p1, .int p2, .int p3, .int p4, .int p5]) (n := 6) (Nat.le_of_ble_eq_true rfl)
  rw [lg_entry_eq]
  generalize (lg_sl ([.ref q, .int p1, .int p2, .int p3, .int p4, .int p5]) ++ List.replicate (6 - (lg_sl ([.ref q, .int p1, .int p2, .int p3, .int p4, .int p5])).length) Slot.unset).toArray = ls at hl ⊢
  have hl : lv_has ls 6 [(0, .ref q), (1, .int p1), (2, .int p2), (3, .int p3), (4, .int p4), (5, .int p5)] := hl
  unfold wp_X10_append at hwp
  obtain ⟨H, hH⟩ : ∃ H, H = s.heap := ⟨_, rfl⟩
  obtain ⟨locs, hlo⟩ : ∃ z : List Loc, z = [] := ⟨_, rfl⟩
  have hP : va_P D vwCl [(q, .inr (10, [.ref q_input, .int t_inputLength, .ref q_parser, .int t_parseCode, .int t_parsePosition, .ref q_now, .ref q_past, .ref q_slots, .ref q_slotUsed, .ref q_output, .ref q_choices, .ref q_stairs, .ref q_frontier, .ref q_search, .ref q_layering, .ref q_climber, .int t_frontierFresh, .int t_searchFresh, .int t_layersFresh])), (q_input, .inl (C 1, 600, .inl t_input))] H := by rw [hH]; exact hP
  have hD : va_D A [(q, .inr (10, [.ref q_input, .int t_inputLength, .ref q_parser, .int t_parseCode, .int t_parsePosition, .ref q_now, .ref q_past, .ref q_slots, .ref q_slotUsed, .ref q_output, .ref q_choices, .ref q_stairs, .ref q_frontier, .ref q_search, .ref q_layering, .ref q_climber, .int t_frontierFresh, .int t_searchFresh, .int t_layersFresh])), (q_input, .inl (C 1, 600, .inl t_input))] := hD
  have hS : va_S A s.heap H locs := by rw [hH, hlo]; exact hS
  suffices K : W p l e (headSpec ws_X10_append rm_X10_append).room s m ([.ref q, .int p1, .int p2, .int p3, .int p4, .int p5] : List Value).toArray below meth c H locs 0 0 (vx_MQ below (q_X10_append D C q q_input q_parser q_now q_past q_slots q_slotUsed q_output q_choices q_stairs q_frontier q_search q_layering q_climber t_parseCode t_parsePosition t_frontierFresh t_searchFresh t_layersFresh Q A) (x_X10_append D C q q_input q_parser q_now q_past q_slots q_slotUsed q_output q_choices q_stairs q_frontier q_search q_layering q_climber t_parseCode t_parsePosition t_frontierFresh t_searchFresh t_layersFresh QX A) ([.ref q, .int p1, .int p2, .int p3, .int p4, .int p5] : List Value).toArray s 1 6 A) (F0 m 0 ls []) from by rw [hH, hlo] at K; exact K
  refine lv_aload_n hx hb dX10_append_0 rfl (lv_at hl 0 rfl) ?_
  refine va_get (D := D) (ci := 10) (v := .int t_inputLength) (C := RX10) (T := TX10) (N := 19) hx hb hts iwX10 hown hK hP 0 rfl rfl 1 (by decide) (hts (.fieldLink RX10 95 "ParetoDesk" "inputLength" "I") wd_494) (fun _ h9 => h9) rfl dX10_append_1 ?_
  refine lv_sipush (v := 580) hx hb dX10_append_4 (by decide) ?_
  refine lv_icmp_le (tgt := 20) hx hb dX10_append_7 (by decide) (fun c7 => ?_) (fun c7 => ?_)
  · have hwp := hwp.1 c7
    refine lv_aload_n hx hb dX10_append_20 rfl (lv_at hl 0 rfl) ?_
    refine lv_iload_n hx hb dX10_append_21 rfl (lv_at hl 1 rfl) ?_
    have hPc := hP.sub (ws' := [(q, .inr (10, [.ref q_input, .int t_inputLength, .ref q_parser, .int t_parseCode, .int t_parsePosition, .ref q_now, .ref q_past, .ref q_slots, .ref q_slotUsed, .ref q_output, .ref q_choices, .ref q_stairs, .ref q_frontier, .ref q_search, .ref q_layering, .ref q_climber, .int t_frontierFresh, .int t_searchFresh, .int t_layersFresh])), (q_input, .inl (C 1, 600, .inl t_input))]) [0, 1] rfl
    have hDc := hD.sub (ws' := [(q, .inr (10, [.ref q_input, .int t_inputLength, .ref q_parser, .int t_parseCode, .int t_parsePosition, .ref q_now, .ref q_past, .ref q_slots, .ref q_slotUsed, .ref q_output, .ref q_choices, .ref q_stairs, .ref q_frontier, .ref q_search, .ref q_layering, .ref q_climber, .int t_frontierFresh, .int t_searchFresh, .int t_layersFresh])), (q_input, .inl (C 1, 600, .inl t_input))]) [0, 1] (by decide) rfl
    have hFc := va_free (wc := [(q, .inr (10, [.ref q_input, .int t_inputLength, .ref q_parser, .int t_parseCode, .int t_parsePosition, .ref q_now, .ref q_past, .ref q_slots, .ref q_slotUsed, .ref q_output, .ref q_choices, .ref q_stairs, .ref q_frontier, .ref q_search, .ref q_layering, .ref q_climber, .int t_frontierFresh, .int t_searchFresh, .int t_layersFresh])), (q_input, .inl (C 1, 600, .inl t_input))]) hD hS hA [0, 1] rfl
    refine va_callv (va_runV (As := [.int p1]) (rest := []) ⟨hx, hb, hml, hown, hts⟩ (met_X10_putInput l D C q q_input q_parser q_now q_past q_slots q_slotUsed q_output q_choices q_stairs q_frontier q_search q_layering q_climber p1 t_inputLength t_parseCode t_parsePosition t_frontierFresh t_searchFresh t_layersFresh t_input H.size _ hwp) (cwV 1 hts gc_X10_105 rfl rfl rfl (by decide +kernel) ⟨Nat.le_of_ble_eq_true rfl, Nat.le_of_ble_eq_true rfl⟩) ⟨fun a U g mk q => by obtain ⟨q0, q1, qP, qK, qD⟩ := q; exact ⟨q0, q1, qP, va_K.moved (u := U) (U := U.calling g mk a) (Vm.Alike.refl U.vm) qK, qD⟩, va_recv hK hPc (ci := 10) (q0 := 0) rfl rfl, fun U hU hW => ⟨rfl, by rw [hU], by rw [hU]; exact hPc, va_K.moved hW.alike hK, hDc.weaken (fun _ _ _ _ => trivial)⟩⟩ rfl rfl hl.1 rfl (lv_room (Nat.le_of_ble_eq_true rfl)) dX10_append_22 ⟨Nat.le_of_ble_eq_true rfl, Nat.le_of_ble_eq_true rfl⟩) hS (fun q _ h => hFc q h) hFc (fun u t H1 locs ht hvm hwp hB hz1 hk1 hS => ?_)
    obtain ⟨u22_1, u22_2⟩ := u
    obtain ⟨hP1, -, hD1⟩ := hB
    rw [ht] at hP1
    obtain ⟨hP, hD⟩ := va_join (wr := []) (w1 := [(q, .inr (10, [.ref q_input, .int u22_1, .ref q_parser, .int t_parseCode, .int t_parsePosition, .ref q_now, .ref q_past, .ref q_slots, .ref q_slotUsed, .ref q_output, .ref q_choices, .ref q_stairs, .ref q_frontier, .ref q_search, .ref q_layering, .ref q_climber, .int t_frontierFresh, .int t_searchFresh, .int t_layersFresh])), (q_input, .inl (C 1, 600, .inl u22_2))]) hP hD [0, 1] [] rfl rfl (by decide) (by decide) hk1 hFc hP1 hD1
    generalize H1 = H at hP hS ⊢
    have hP : va_P D vwCl [(q, .inr (10, [.ref q_input, .int u22_1, .ref q_parser, .int t_parseCode, .int t_parsePosition, .ref q_now, .ref q_past, .ref q_slots, .ref q_slotUsed, .ref q_output, .ref q_choices, .ref q_stairs, .ref q_frontier, .ref q_search, .ref q_layering, .ref q_climber, .int t_frontierFresh, .int t_searchFresh, .int t_layersFresh])), (q_input, .inl (C 1, 600, .inl u22_2))] H := hP
    have hD : va_D A [(q, .inr (10, [.ref q_input, .int u22_1, .ref q_parser, .int t_parseCode, .int t_parsePosition, .ref q_now, .ref q_past, .ref q_slots, .ref q_slotUsed, .ref q_output, .ref q_choices, .ref q_stairs, .ref q_frontier, .ref q_search, .ref q_layering, .ref q_climber, .int t_frontierFresh, .int t_searchFresh, .int t_layersFresh])), (q_input, .inl (C 1, 600, .inl u22_2))] := hD
    refine lv_aload_n hx hb dX10_append_25 rfl (lv_at hl 0 rfl) ?_
    refine lv_iload_n hx hb dX10_append_26 rfl (lv_at hl 2 rfl) ?_
    have hPc := hP.sub (ws' := [(q, .inr (10, [.ref q_input, .int u22_1, .ref q_parser, .int t_parseCode, .int t_parsePosition, .ref q_now, .ref q_past, .ref q_slots, .ref q_slotUsed, .ref q_output, .ref q_choices, .ref q_stairs, .ref q_frontier, .ref q_search, .ref q_layering, .ref q_climber, .int t_frontierFresh, .int t_searchFresh, .int t_layersFresh])), (q_input, .inl (C 1, 600, .inl u22_2))]) [0, 1] rfl
    have hDc := hD.sub (ws' := [(q, .inr (10, [.ref q_input, .int u22_1, .ref q_parser, .int t_parseCode, .int t_parsePosition, .ref q_now, .ref q_past, .ref q_slots, .ref q_slotUsed, .ref q_output, .ref q_choices, .ref q_stairs, .ref q_frontier, .ref q_search, .ref q_layering, .ref q_climber, .int t_frontierFresh, .int t_searchFresh, .int t_layersFresh])), (q_input, .inl (C 1, 600, .inl u22_2))]) [0, 1] (by decide) rfl
    have hFc := va_free (wc := [(q, .inr (10, [.ref q_input, .int u22_1, .ref q_parser, .int t_parseCode, .int t_parsePosition, .ref q_now, .ref q_past, .ref q_slots, .ref q_slotUsed, .ref q_output, .ref q_choices, .ref q_stairs, .ref q_frontier, .ref q_search, .ref q_layering, .ref q_climber, .int t_frontierFresh, .int t_searchFresh, .int t_layersFresh])), (q_input, .inl (C 1, 600, .inl u22_2))]) hD hS hA [0, 1] rfl
    refine va_callv (va_runV (As := [.int p2]) (rest := []) ⟨hx, hb, hml, hown, hts⟩ (met_X10_putInput l D C q q_input q_parser q_now q_past q_slots q_slotUsed q_output q_choices q_stairs q_frontier q_search q_layering q_climber p2 u22_1 t_parseCode t_parsePosition t_frontierFresh t_searchFresh t_layersFresh u22_2 H.size _ hwp) (cwV 1 hts gc_X10_105 rfl rfl rfl (by decide +kernel) ⟨Nat.le_of_ble_eq_true rfl, Nat.le_of_ble_eq_true rfl⟩) ⟨fun a U g mk q => by obtain ⟨q0, q1, qP, qK, qD⟩ := q; exact ⟨q0, q1, qP, va_K.moved (u := U) (U := U.calling g mk a) (Vm.Alike.refl U.vm) qK, qD⟩, va_recv hK hPc (ci := 10) (q0 := 0) rfl rfl, fun U hU hW => ⟨rfl, by rw [hU], by rw [hU]; exact hPc, va_K.moved hW.alike hK, hDc.weaken (fun _ _ _ _ => trivial)⟩⟩ rfl rfl hl.1 rfl (lv_room (Nat.le_of_ble_eq_true rfl)) dX10_append_27 ⟨Nat.le_of_ble_eq_true rfl, Nat.le_of_ble_eq_true rfl⟩) hS (fun q _ h => hFc q h) hFc (fun u t H1 locs ht hvm hwp hB hz1 hk1 hS => ?_)
    obtain ⟨u27_3, u27_4⟩ := u
    obtain ⟨hP1, -, hD1⟩ := hB
    rw [ht] at hP1
    obtain ⟨hP, hD⟩ := va_join (wr := []) (w1 := [(q, .inr (10, [.ref q_input, .int u27_3, .ref q_parser, .int t_parseCode, .int t_parsePosition, .ref q_now, .ref q_past, .ref q_slots, .ref q_slotUsed, .ref q_output, .ref q_choices, .ref q_stairs, .ref q_frontier, .ref q_search, .ref q_layering, .ref q_climber, .int t_frontierFresh, .int t_searchFresh, .int t_layersFresh])), (q_input, .inl (C 1, 600, .inl u27_4))]) hP hD [0, 1] [] rfl rfl (by decide) (by decide) hk1 hFc hP1 hD1
    generalize H1 = H at hP hS ⊢
    have hP : va_P D vwCl [(q, .inr (10, [.ref q_input, .int u27_3, .ref q_parser, .int t_parseCode, .int t_parsePosition, .ref q_now, .ref q_past, .ref q_slots, .ref q_slotUsed, .ref q_output, .ref q_choices, .ref q_stairs, .ref q_frontier, .ref q_search, .ref q_layering, .ref q_climber, .int t_frontierFresh, .int t_searchFresh, .int t_layersFresh])), (q_input, .inl (C 1, 600, .inl u27_4))] H := hP
    have hD : va_D A [(q, .inr (10, [.ref q_input, .int u27_3, .ref q_parser, .int t_parseCode, .int t_parsePosition, .ref q_now, .ref q_past, .ref q_slots, .ref q_slotUsed, .ref q_output, .ref q_choices, .ref q_stairs, .ref q_frontier, .ref q_search, .ref q_layering, .ref q_climber, .int t_frontierFresh, .int t_searchFresh, .int t_layersFresh])), (q_input, .inl (C 1, 600, .inl u27_4))] := hD
    refine lv_aload_n hx hb dX10_append_30 rfl (lv_at hl 0 rfl) ?_
    refine lv_iload_n hx hb dX10_append_31 rfl (lv_at hl 3 rfl) ?_
    have hPc := hP.sub (ws' := [(q, .inr (10, [.ref q_input, .int u27_3, .ref q_parser, .int t_parseCode, .int t_parsePosition, .ref q_now, .ref q_past, .ref q_slots, .ref q_slotUsed, .ref q_output, .ref q_choices, .ref q_stairs, .ref q_frontier, .ref q_search, .ref q_layering, .ref q_climber, .int t_frontierFresh, .int t_searchFresh, .int t_layersFresh])), (q_input, .inl (C 1, 600, .inl u27_4))]) [0, 1] rfl
    have hDc := hD.sub (ws' := [(q, .inr (10, [.ref q_input, .int u27_3, .ref q_parser, .int t_parseCode, .int t_parsePosition, .ref q_now, .ref q_past, .ref q_slots, .ref q_slotUsed, .ref q_output, .ref q_choices, .ref q_stairs, .ref q_frontier, .ref q_search, .ref q_layering, .ref q_climber, .int t_frontierFresh, .int t_searchFresh, .int t_layersFresh])), (q_input, .inl (C 1, 600, .inl u27_4))]) [0, 1] (by decide) rfl
    have hFc := va_free (wc := [(q, .inr (10, [.ref q_input, .int u27_3, .ref q_parser, .int t_parseCode, .int t_parsePosition, .ref q_now, .ref q_past, .ref q_slots, .ref q_slotUsed, .ref q_output, .ref q_choices, .ref q_stairs, .ref q_frontier, .ref q_search, .ref q_layering, .ref q_climber, .int t_frontierFresh, .int t_searchFresh, .int t_layersFresh])), (q_input, .inl (C 1, 600, .inl u27_4))]) hD hS hA [0, 1] rfl
    refine va_callv (va_runV (As := [.int p3]) (rest := []) ⟨hx, hb, hml, hown, hts⟩ (met_X10_putInput l D C q q_input q_parser q_now q_past q_slots q_slotUsed q_output q_choices q_stairs q_frontier q_search q_layering q_climber p3 u27_3 t_parseCode t_parsePosition t_frontierFresh t_searchFresh t_layersFresh u27_4 H.size _ hwp) (cwV 1 hts gc_X10_105 rfl rfl rfl (by decide +kernel) ⟨Nat.le_of_ble_eq_true rfl, Nat.le_of_ble_eq_true rfl⟩) ⟨fun a U g mk q => by obtain ⟨q0, q1, qP, qK, qD⟩ := q; exact ⟨q0, q1, qP, va_K.moved (u := U) (U := U.calling g mk a) (Vm.Alike.refl U.vm) qK, qD⟩, va_recv hK hPc (ci := 10) (q0 := 0) rfl rfl, fun U hU hW => ⟨rfl, by rw [hU], by rw [hU]; exact hPc, va_K.moved hW.alike hK, hDc.weaken (fun _ _ _ _ => trivial)⟩⟩ rfl rfl hl.1 rfl (lv_room (Nat.le_of_ble_eq_true rfl)) dX10_append_32 ⟨Nat.le_of_ble_eq_true rfl, Nat.le_of_ble_eq_true rfl⟩) hS (fun q _ h => hFc q h) hFc (fun u t H1 locs ht hvm hwp hB hz1 hk1 hS => ?_)
    obtain ⟨u32_5, u32_6⟩ := u
    obtain ⟨hP1, -, hD1⟩ := hB
    rw [ht] at hP1
    obtain ⟨hP, hD⟩ := va_join (wr := []) (w1 := [(q, .inr (10, [.ref q_input, .int u32_5, .ref q_parser, .int t_parseCode, .int t_parsePosition, .ref q_now, .ref q_past, .ref q_slots, .ref q_slotUsed, .ref q_output, .ref q_choices, .ref q_stairs, .ref q_frontier, .ref q_search, .ref q_layering, .ref q_climber, .int t_frontierFresh, .int t_searchFresh, .int t_layersFresh])), (q_input, .inl (C 1, 600, .inl u32_6))]) hP hD [0, 1] [] rfl rfl (by decide) (by decide) hk1 hFc hP1 hD1
    generalize H1 = H at hP hS ⊢
    have hP : va_P D vwCl [(q, .inr (10, [.ref q_input, .int u32_5, .ref q_parser, .int t_parseCode, .int t_parsePosition, .ref q_now, .ref q_past, .ref q_slots, .ref q_slotUsed, .ref q_output, .ref q_choices, .ref q_stairs, .ref q_frontier, .ref q_search, .ref q_layering, .ref q_climber, .int t_frontierFresh, .int t_searchFresh, .int t_layersFresh])), (q_input, .inl (C 1, 600, .inl u32_6))] H := hP
    have hD : va_D A [(q, .inr (10, [.ref q_input, .int u32_5, .ref q_parser, .int t_parseCode, .int t_parsePosition, .ref q_now, .ref q_past, .ref q_slots, .ref q_slotUsed, .ref q_output, .ref q_choices, .ref q_stairs, .ref q_frontier, .ref q_search, .ref q_layering, .ref q_climber, .int t_frontierFresh, .int t_searchFresh, .int t_layersFresh])), (q_input, .inl (C 1, 600, .inl u32_6))] := hD
    refine lv_aload_n hx hb dX10_append_35 rfl (lv_at hl 0 rfl) ?_
    refine lv_iload hx hb dX10_append_36 (lv_at hl 4 rfl) ?_
    have hPc := hP.sub (ws' := [(q, .inr (10, [.ref q_input, .int u32_5, .ref q_parser, .int t_parseCode, .int t_parsePosition, .ref q_now, .ref q_past, .ref q_slots, .ref q_slotUsed, .ref q_output, .ref q_choices, .ref q_stairs, .ref q_frontier, .ref q_search, .ref q_layering, .ref q_climber, .int t_frontierFresh, .int t_searchFresh, .int t_layersFresh])), (q_input, .inl (C 1, 600, .inl u32_6))]) [0, 1] rfl
    have hDc := hD.sub (ws' := [(q, .inr (10, [.ref q_input, .int u32_5, .ref q_parser, .int t_parseCode, .int t_parsePosition, .ref q_now, .ref q_past, .ref q_slots, .ref q_slotUsed, .ref q_output, .ref q_choices, .ref q_stairs, .ref q_frontier, .ref q_search, .ref q_layering, .ref q_climber, .int t_frontierFresh, .int t_searchFresh, .int t_layersFresh])), (q_input, .inl (C 1, 600, .inl u32_6))]) [0, 1] (by decide) rfl
    have hFc := va_free (wc := [(q, .inr (10, [.ref q_input, .int u32_5, .ref q_parser, .int t_parseCode, .int t_parsePosition, .ref q_now, .ref q_past, .ref q_slots, .ref q_slotUsed, .ref q_output, .ref q_choices, .ref q_stairs, .ref q_frontier, .ref q_search, .ref q_layering, .ref q_climber, .int t_frontierFresh, .int t_searchFresh, .int t_layersFresh])), (q_input, .inl (C 1, 600, .inl u32_6))]) hD hS hA [0, 1] rfl
    refine va_callv (va_runV (As := [.int p4]) (rest := []) ⟨hx, hb, hml, hown, hts⟩ (met_X10_putInput l D C q q_input q_parser q_now q_past q_slots q_slotUsed q_output q_choices q_stairs q_frontier q_search q_layering q_climber p4 u32_5 t_parseCode t_parsePosition t_frontierFresh t_searchFresh t_layersFresh u32_6 H.size _ hwp) (cwV 1 hts gc_X10_105 rfl rfl rfl (by decide +kernel) ⟨Nat.le_of_ble_eq_true rfl, Nat.le_of_ble_eq_true rfl⟩) ⟨fun a U g mk q => by obtain ⟨q0, q1, qP, qK, qD⟩ := q; exact ⟨q0, q1, qP, va_K.moved (u := U) (U := U.calling g mk a) (Vm.Alike.refl U.vm) qK, qD⟩, va_recv hK hPc (ci := 10) (q0 := 0) rfl rfl, fun U hU hW => ⟨rfl, by rw [hU], by rw [hU]; exact hPc, va_K.moved hW.alike hK, hDc.weaken (fun _ _ _ _ => trivial)⟩⟩ rfl rfl hl.1 rfl (lv_room (Nat.le_of_ble_eq_true rfl)) dX10_append_38 ⟨Nat.le_of_ble_eq_true rfl, Nat.le_of_ble_eq_true rfl⟩) hS (fun q _ h => hFc q h) hFc (fun u t H1 locs ht hvm hwp hB hz1 hk1 hS => ?_)
    obtain ⟨u38_7, u38_8⟩ := u
    obtain ⟨hP1, -, hD1⟩ := hB
    rw [ht] at hP1
    obtain ⟨hP, hD⟩ := va_join (wr := []) (w1 := [(q, .inr (10, [.ref q_input, .int u38_7, .ref q_parser, .int t_parseCode, .int t_parsePosition, .ref q_now, .ref q_past, .ref q_slots, .ref q_slotUsed, .ref q_output, .ref q_choices, .ref q_stairs, .ref q_frontier, .ref q_search, .ref q_layering, .ref q_climber, .int t_frontierFresh, .int t_searchFresh, .int t_layersFresh])), (q_input, .inl (C 1, 600, .inl u38_8))]) hP hD [0, 1] [] rfl rfl (by decide) (by decide) hk1 hFc hP1 hD1
    generalize H1 = H at hP hS ⊢
    have hP : va_P D vwCl [(q, .inr (10, [.ref q_input, .int u38_7, .ref q_parser, .int t_parseCode, .int t_parsePosition, .ref q_now, .ref q_past, .ref q_slots, .ref q_slotUsed, .ref q_output, .ref q_choices, .ref q_stairs, .ref q_frontier, .ref q_search, .ref q_layering, .ref q_climber, .int t_frontierFresh, .int t_searchFresh, .int t_layersFresh])), (q_input, .inl (C 1, 600, .inl u38_8))] H := hP
    have hD : va_D A [(q, .inr (10, [.ref q_input, .int u38_7, .ref q_parser, .int t_parseCode, .int t_parsePosition, .ref q_now, .ref q_past, .ref q_slots, .ref q_slotUsed, .ref q_output, .ref q_choices, .ref q_stairs, .ref q_frontier, .ref q_search, .ref q_layering, .ref q_climber, .int t_frontierFresh, .int t_searchFresh, .int t_layersFresh])), (q_input, .inl (C 1, 600, .inl u38_8))] := hD
    refine lv_aload_n hx hb dX10_append_41 rfl (lv_at hl 0 rfl) ?_
    refine lv_iload hx hb dX10_append_42 (lv_at hl 5 rfl) ?_
    have hPc := hP.sub (ws' := [(q, .inr (10, [.ref q_input, .int u38_7, .ref q_parser, .int t_parseCode, .int t_parsePosition, .ref q_now, .ref q_past, .ref q_slots, .ref q_slotUsed, .ref q_output, .ref q_choices, .ref q_stairs, .ref q_frontier, .ref q_search, .ref q_layering, .ref q_climber, .int t_frontierFresh, .int t_searchFresh, .int t_layersFresh])), (q_input, .inl (C 1, 600, .inl u38_8))]) [0, 1] rfl
    have hDc := hD.sub (ws' := [(q, .inr (10, [.ref q_input, .int u38_7, .ref q_parser, .int t_parseCode, .int t_parsePosition, .ref q_now, .ref q_past, .ref q_slots, .ref q_slotUsed, .ref q_output, .ref q_choices, .ref q_stairs, .ref q_frontier, .ref q_search, .ref q_layering, .ref q_climber, .int t_frontierFresh, .int t_searchFresh, .int t_layersFresh])), (q_input, .inl (C 1, 600, .inl u38_8))]) [0, 1] (by decide) rfl
    have hFc := va_free (wc := [(q, .inr (10, [.ref q_input, .int u38_7, .ref q_parser, .int t_parseCode, .int t_parsePosition, .ref q_now, .ref q_past, .ref q_slots, .ref q_slotUsed, .ref q_output, .ref q_choices, .ref q_stairs, .ref q_frontier, .ref q_search, .ref q_layering, .ref q_climber, .int t_frontierFresh, .int t_searchFresh, .int t_layersFresh])), (q_input, .inl (C 1, 600, .inl u38_8))]) hD hS hA [0, 1] rfl
    refine va_callv (va_runV (As := [.int p5]) (rest := []) ⟨hx, hb, hml, hown, hts⟩ (met_X10_putInput l D C q q_input q_parser q_now q_past q_slots q_slotUsed q_output q_choices q_stairs q_frontier q_search q_layering q_climber p5 u38_7 t_parseCode t_parsePosition t_frontierFresh t_searchFresh t_layersFresh u38_8 H.size _ hwp) (cwV 1 hts gc_X10_105 rfl rfl rfl (by decide +kernel) ⟨Nat.le_of_ble_eq_true rfl, Nat.le_of_ble_eq_true rfl⟩) ⟨fun a U g mk q => by obtain ⟨q0, q1, qP, qK, qD⟩ := q; exact ⟨q0, q1, qP, va_K.moved (u := U) (U := U.calling g mk a) (Vm.Alike.refl U.vm) qK, qD⟩, va_recv hK hPc (ci := 10) (q0 := 0) rfl rfl, fun U hU hW => ⟨rfl, by rw [hU], by rw [hU]; exact hPc, va_K.moved hW.alike hK, hDc.weaken (fun _ _ _ _ => trivial)⟩⟩ rfl rfl hl.1 rfl (lv_room (Nat.le_of_ble_eq_true rfl)) dX10_append_44 ⟨Nat.le_of_ble_eq_true rfl, Nat.le_of_ble_eq_true rfl⟩) hS (fun q _ h => hFc q h) hFc (fun u t H1 locs ht hvm hwp hB hz1 hk1 hS => ?_)
    obtain ⟨u44_9, u44_10⟩ := u
    obtain ⟨hP1, -, hD1⟩ := hB
    rw [ht] at hP1
    obtain ⟨hP, hD⟩ := va_join (wr := []) (w1 := [(q, .inr (10, [.ref q_input, .int u44_9, .ref q_parser, .int t_parseCode, .int t_parsePosition, .ref q_now, .ref q_past, .ref q_slots, .ref q_slotUsed, .ref q_output, .ref q_choices, .ref q_stairs, .ref q_frontier, .ref q_search, .ref q_layering, .ref q_climber, .int t_frontierFresh, .int t_searchFresh, .int t_layersFresh])), (q_input, .inl (C 1, 600, .inl u44_10))]) hP hD [0, 1] [] rfl rfl (by decide) (by decide) hk1 hFc hP1 hD1
    generalize H1 = H at hP hS ⊢
    have hP : va_P D vwCl [(q, .inr (10, [.ref q_input, .int u44_9, .ref q_parser, .int t_parseCode, .int t_parsePosition, .ref q_now, .ref q_past, .ref q_slots, .ref q_slotUsed, .ref q_output, .ref q_choices, .ref q_stairs, .ref q_frontier, .ref q_search, .ref q_layering, .ref q_climber, .int t_frontierFresh, .int t_searchFresh, .int t_layersFresh])), (q_input, .inl (C 1, 600, .inl u44_10))] H := hP
    have hD : va_D A [(q, .inr (10, [.ref q_input, .int u44_9, .ref q_parser, .int t_parseCode, .int t_parsePosition, .ref q_now, .ref q_past, .ref q_slots, .ref q_slotUsed, .ref q_output, .ref q_choices, .ref q_stairs, .ref q_frontier, .ref q_search, .ref q_layering, .ref q_climber, .int t_frontierFresh, .int t_searchFresh, .int t_layersFresh])), (q_input, .inl (C 1, 600, .inl u44_10))] := hD
    refine lv_aload_n hx hb dX10_append_47 rfl (lv_at hl 0 rfl) ?_
    refine va_get (D := D) (ci := 10) (v := .int u44_9) (C := RX10) (T := TX10) (N := 19) hx hb hts iwX10 hown hK hP 0 rfl rfl 1 (by decide) (hts (.fieldLink RX10 95 "ParetoDesk" "inputLength" "I") wd_494) (fun _ h9 => h9) rfl dX10_append_48 ?_
    have hP9 := hP.sub (ws' := [(q, .inr (10, [.ref q_input, .int u44_9, .ref q_parser, .int t_parseCode, .int t_parsePosition, .ref q_now, .ref q_past, .ref q_slots, .ref q_slotUsed, .ref q_output, .ref q_choices, .ref q_stairs, .ref q_frontier, .ref q_search, .ref q_layering, .ref q_climber, .int t_frontierFresh, .int t_searchFresh, .int t_layersFresh])), (q_input, .inl (C 1, 600, .inl u44_10))]) [0, 1] rfl
    have hD9 := hD.sub (ws' := [(q, .inr (10, [.ref q_input, .int u44_9, .ref q_parser, .int t_parseCode, .int t_parsePosition, .ref q_now, .ref q_past, .ref q_slots, .ref q_slotUsed, .ref q_output, .ref q_choices, .ref q_stairs, .ref q_frontier, .ref q_search, .ref q_layering, .ref q_climber, .int t_frontierFresh, .int t_searchFresh, .int t_layersFresh])), (q_input, .inl (C 1, 600, .inl u44_10))]) [0, 1] (by decide) rfl
    refine vx_ret ?_
    refine W.widen (k := 1) (n := 6) (Nat.le_of_ble_eq_true rfl) (Nat.le_of_ble_eq_true rfl) ?_
    exact W.iret (v := u44_9) hx hb hr (fun t ht hW => ⟨⟨u44_9, (u44_9, u44_10), rfl, hwp, by rw [ht]; exact hP9, va_K.moved hW.alike hK, hD9⟩, hS.F ht⟩) hS.2.2 dX10_append_51
  · have hwp := hwp.2 c7
    have hP9 := hP.sub (ws' := [(q, .inr (10, [.ref q_input, .int t_inputLength, .ref q_parser, .int t_parseCode, .int t_parsePosition, .ref q_now, .ref q_past, .ref q_slots, .ref q_slotUsed, .ref q_output, .ref q_choices, .ref q_stairs, .ref q_frontier, .ref q_search, .ref q_layering, .ref q_climber, .int t_frontierFresh, .int t_searchFresh, .int t_layersFresh])), (q_input, .inl (C 1, 600, .inl t_input))]) [0, 1] rfl
    have hD9 := hD.sub (ws' := [(q, .inr (10, [.ref q_input, .int t_inputLength, .ref q_parser, .int t_parseCode, .int t_parsePosition, .ref q_now, .ref q_past, .ref q_slots, .ref q_slotUsed, .ref q_output, .ref q_choices, .ref q_stairs, .ref q_frontier, .ref q_search, .ref q_layering, .ref q_climber, .int t_frontierFresh, .int t_searchFresh, .int t_layersFresh])), (q_input, .inl (C 1, 600, .inl t_input))]) [0, 1] (by decide) rfl
    obtain ⟨sa, hsa⟩ := hT.2.1 (100, "the input buffer is full") (by decide)
    exact vx_throwS (own := RX10) (cls := "java/lang/IllegalStateException") (text := "the input buffer is full") (names := tx_names) (ik := 98) (is := 100) (ic := 102) (A := A) (mc := 1) (ms := 6) hx hb hst hown (by decide +kernel) (by decide +kernel) (hts (.classLink RX10 98 "java/lang/IllegalStateException") wd_971) (hts (.initialized "java/lang/IllegalStateException") wd_128) hsa (tx_atISE hT) (by decide +kernel) hT.2.2.1 hT.2.2.2.1 hS (hl.1.trans hml.symm) dX10_append_10 dX10_append_13 dX10_append_14 dX10_append_16 dX10_append_19 (fun x h => (htab x h).elim) (by decide) (Nat.le_of_ble_eq_true rfl) (Nat.le_of_ble_eq_true rfl) (Nat.le_of_ble_eq_true rfl) hlocks (fun t hal hz hk => ⟨(t_inputLength, t_input), trivial, ⟨hwp, tx_P hP9 hk, va_K.moved hal hK, hD9⟩, tx_F hS hz hk⟩) hS.2.2 (Nat.le_of_ble_eq_true rfl) (Nat.le_of_ble_eq_true rfl)
abbrev ws_X10_truncate : List Cond := .code yX10_truncate cX10_truncate 2 none :: WALL
abbrev rm_X10_truncate : Room := { frames := 6, cells := 1, slots := 6, locals := 90 }
abbrev w_X10_truncate (C : Nat → ClassId) (q : Nat) (q_input : Nat) (q_parser : Nat) (q_now : Nat) (q_past : Nat) (q_slots : Nat) (q_slotUsed : Nat) (q_output : Nat) (q_choices : Nat) (q_stairs : Nat) (q_frontier : Nat) (q_search : Nat) (q_layering : Nat) (q_climber : Nat) (t_inputLength : Int32) (t_parseCode : Int32) (t_parsePosition : Int32) (t_frontierFresh : Int32) (t_searchFresh : Int32) (t_layersFresh : Int32) : va_W := [(q, .inr (10, [.ref q_input, .int t_inputLength, .ref q_parser, .int t_parseCode, .int t_parsePosition, .ref q_now, .ref q_past, .ref q_slots, .ref q_slotUsed, .ref q_output, .ref q_choices, .ref q_stairs, .ref q_frontier, .ref q_search, .ref q_layering, .ref q_climber, .int t_frontierFresh, .int t_searchFresh, .int t_layersFresh]))]
abbrev q_X10_truncate (D : va_G) (C : Nat → ClassId) (q : Nat) (q_input : Nat) (q_parser : Nat) (q_now : Nat) (q_past : Nat) (q_slots : Nat) (q_slotUsed : Nat) (q_output : Nat) (q_choices : Nat) (q_stairs : Nat) (q_frontier : Nat) (q_search : Nat) (q_layering : Nat) (q_climber : Nat) (t_parseCode : Int32) (t_parsePosition : Int32) (t_frontierFresh : Int32) (t_searchFresh : Int32) (t_layersFresh : Int32) (Q : Int32 → Prop) (A : Nat → Prop) : Array Value → State → Outcome → State → Prop := va_Qv (fun (u : Int32) => Q u) (fun (u : Int32) (t : State) => va_P D vwCl (w_X10_truncate C q q_input q_parser q_now q_past q_slots q_slotUsed q_output q_choices q_stairs q_frontier q_search q_layering q_climber u t_parseCode t_parsePosition t_frontierFresh t_searchFresh t_layersFresh) t.heap ∧ va_K D vwCl (tyL C) t ∧ va_D A (w_X10_truncate C q q_input q_parser q_now q_past q_slots q_slotUsed q_output q_choices q_stairs q_frontier q_search q_layering q_climber u t_parseCode t_parsePosition t_frontierFresh t_searchFresh t_layersFresh)) A
abbrev x_X10_truncate (D : va_G) (C : Nat → ClassId) (q : Nat) (q_input : Nat) (q_parser : Nat) (q_now : Nat) (q_past : Nat) (q_slots : Nat) (q_slotUsed : Nat) (q_output : Nat) (q_choices : Nat) (q_stairs : Nat) (q_frontier : Nat) (q_search : Nat) (q_layering : Nat) (q_climber : Nat) (t_parseCode : Int32) (t_parsePosition : Int32) (t_frontierFresh : Int32) (t_searchFresh : Int32) (t_layersFresh : Int32) (QX : String → Int32 → Prop) (A : Nat → Prop) : String → State → State → Prop := vx_X (fun (_ : Int32) => True) (fun (E : String) (u : Int32) (t : State) => QX E u ∧ va_P D vwCl (w_X10_truncate C q q_input q_parser q_now q_past q_slots q_slotUsed q_output q_choices q_stairs q_frontier q_search q_layering q_climber u t_parseCode t_parsePosition t_frontierFresh t_searchFresh t_layersFresh) t.heap ∧ va_K D vwCl (tyL C) t ∧ va_D A (w_X10_truncate C q q_input q_parser q_now q_past q_slots q_slotUsed q_output q_choices q_stairs q_frontier q_search q_layering q_climber u t_parseCode t_parsePosition t_frontierFresh t_searchFresh t_layersFresh)) A
set_option maxHeartbeats 4000000 in
set_option maxRecDepth 100000 in
theorem met_X10_truncate (l : Launch) (hst : l.stackTraces = false) (D : va_G) (C : Nat → ClassId) (q : Nat) (q_input : Nat) (q_parser : Nat) (q_now : Nat) (q_past : Nat) (q_slots : Nat) (q_slotUsed : Nat) (q_output : Nat) (q_choices : Nat) (q_stairs : Nat) (q_frontier : Nat) (q_search : Nat) (q_layering : Nat) (q_climber : Nat) (p1 : Int32) (t_inputLength : Int32) (t_parseCode : Int32) (t_parsePosition : Int32) (t_frontierFresh : Int32) (t_searchFresh : Int32) (t_layersFresh : Int32) (sz : Nat) (Q : Int32 → Prop) (QX : String → Int32 → Prop) (hwp : wp_X10_truncate p1 t_inputLength Q QX) : vx_Met l yX10_truncate ws_X10_truncate rm_X10_truncate (va_Pc [.ref q, .int p1] (fun U => U.heap.size = sz ∧ va_P D vwCl (w_X10_truncate C q q_input q_parser q_now q_past q_slots q_slotUsed q_output q_choices q_stairs q_frontier q_search q_layering q_climber t_inputLength t_parseCode t_parsePosition t_frontierFresh t_searchFresh t_layersFresh) U.heap ∧ va_K D vwCl (tyL C) U ∧ va_D (fun _ => True) (w_X10_truncate C q q_input q_parser q_now q_past q_slots q_slotUsed q_output q_choices q_stairs q_frontier q_search q_layering q_climber t_inputLength t_parseCode t_parsePosition t_frontierFresh t_searchFresh t_layersFresh) ∧ TX (va_A (w_X10_truncate C q q_input q_parser q_now q_past q_slots q_slotUsed q_output q_choices q_stairs q_frontier q_search q_layering q_climber t_inputLength t_parseCode t_parsePosition t_frontierFresh t_searchFresh t_layersFresh) sz) U U.heap)) (q_X10_truncate D C q q_input q_parser q_now q_past q_slots q_slotUsed q_output q_choices q_stairs q_frontier q_search q_layering q_climber t_parseCode t_parsePosition t_frontierFresh t_searchFresh t_layersFresh Q (va_A (w_X10_truncate C q q_input q_parser q_now q_past q_slots q_slotUsed q_output q_choices q_stairs q_frontier q_search q_layering q_climber t_inputLength t_parseCode t_parsePosition t_frontierFresh t_searchFresh t_layersFresh) sz)) (x_X10_truncate D C q q_input q_parser q_now q_past q_slots q_slotUsed q_output q_choices q_stairs q_frontier q_search q_layering q_climber t_parseCode t_parsePosition t_frontierFresh t_searchFresh t_layersFresh QX (va_A (w_X10_truncate C q q_input q_parser q_now q_past q_slots q_slotUsed q_output q_choices q_stairs q_frontier q_search q_layering q_climber t_inputLength t_parseCode t_parsePosition t_frontierFresh t_searchFresh t_layersFresh) sz)) 1 6 (va_A (w_X10_truncate C q q_input q_parser q_now q_past q_slots q_slotUsed q_output q_choices q_stairs q_frontier q_search q_layering q_climber t_inputLength t_parseCode t_parsePosition t_frontierFresh t_searchFresh t_layersFresh) sz) := by
  refine vx_ofW (cc := cX10_truncate) (maxL := 2) (ret := none) (by decide) rfl ?_
  intro p e s m args below meth c s₁ B hml htab hv
  obtain ⟨rfl, hsz, hP, hK, hD0, hT⟩ := hv
  have hx := B.exec
  have hb := B.bytes
  have hr := B.returns
  have hts : ∀ w ∈ WALL, w.before _ s = true := fun w h => atoms_spec (ws := ws_X10_truncate) B.pre w (List.mem_cons_of_mem _ h)
  have hown : s.vm.findClass RX10 = some m.cls := findClass_of_methodNamed B.named
  have hlocks := B.notSynchronized
  subst hsz
  have hD := hD0.self (sz := s.heap.size)
  generalize hAe : va_A (w_X10_truncate C q q_input q_parser q_now q_past q_slots q_slotUsed q_output q_choices q_stairs q_frontier q_search q_layering q_climber t_inputLength t_parseCode t_parsePosition t_frontierFresh t_searchFresh t_layersFresh) s.heap.size = A at hD ⊢ hT
  have hA : ∀ q : Nat, s.heap.size ≤ q → A q := fun q h => by rw [← hAe]; exact Or.inr h
  have hS : va_S A s.heap s.heap [] := va_S.rf
  have hl := lv_entry ([.ref q, .int p1]) (n := 2) (Nat.le_of_ble_eq_true rfl)
  rw [lg_entry_eq]
  generalize (lg_sl ([.ref q, .int p1]) ++ List.replicate (2 - (lg_sl ([.ref q, .int p1])).length) Slot.unset).toArray = ls at hl ⊢
  have hl : lv_has ls 2 [(0, .ref q), (1, .int p1)] := hl
  unfold wp_X10_truncate at hwp
  obtain ⟨H, hH⟩ : ∃ H, H = s.heap := ⟨_, rfl⟩
  obtain ⟨locs, hlo⟩ : ∃ z : List Loc, z = [] := ⟨_, rfl⟩
  have hP : va_P D vwCl [(q, .inr (10, [.ref q_input, .int t_inputLength, .ref q_parser, .int t_parseCode, .int t_parsePosition, .ref q_now, .ref q_past, .ref q_slots, .ref q_slotUsed, .ref q_output, .ref q_choices, .ref q_stairs, .ref q_frontier, .ref q_search, .ref q_layering, .ref q_climber, .int t_frontierFresh, .int t_searchFresh, .int t_layersFresh]))] H := by rw [hH]; exact hP
  have hD : va_D A [(q, .inr (10, [.ref q_input, .int t_inputLength, .ref q_parser, .int t_parseCode, .int t_parsePosition, .ref q_now, .ref q_past, .ref q_slots, .ref q_slotUsed, .ref q_output, .ref q_choices, .ref q_stairs, .ref q_frontier, .ref q_search, .ref q_layering, .ref q_climber, .int t_frontierFresh, .int t_searchFresh, .int t_layersFresh]))] := hD
  have hS : va_S A s.heap H locs := by rw [hH, hlo]; exact hS
  suffices K : W p l e (headSpec ws_X10_truncate rm_X10_truncate).room s m ([.ref q, .int p1] : List Value).toArray below meth c H locs 0 0 (vx_MQ below (q_X10_truncate D C q q_input q_parser q_now q_past q_slots q_slotUsed q_output q_choices q_stairs q_frontier q_search q_layering q_climber t_parseCode t_parsePosition t_frontierFresh t_searchFresh t_layersFresh Q A) (x_X10_truncate D C q q_input q_parser q_now q_past q_slots q_slotUsed q_output q_choices q_stairs q_frontier q_search q_layering q_climber t_parseCode t_parsePosition t_frontierFresh t_searchFresh t_layersFresh QX A) ([.ref q, .int p1] : List Value).toArray s 1 6 A) (F0 m 0 ls []) from by rw [hH, hlo] at K; exact K
  refine lv_iload_n hx hb dX10_truncate_0 rfl (lv_at hl 1 rfl) ?_
  refine lv_if_lt (tgt := 12) hx hb dX10_truncate_1 (by decide) (fun c1 => ?_) (fun c1 => ?_)
  · have hwp := hwp.1 c1
    have hP9 := hP.sub (ws' := [(q, .inr (10, [.ref q_input, .int t_inputLength, .ref q_parser, .int t_parseCode, .int t_parsePosition, .ref q_now, .ref q_past, .ref q_slots, .ref q_slotUsed, .ref q_output, .ref q_choices, .ref q_stairs, .ref q_frontier, .ref q_search, .ref q_layering, .ref q_climber, .int t_frontierFresh, .int t_searchFresh, .int t_layersFresh]))]) [0] rfl
    have hD9 := hD.sub (ws' := [(q, .inr (10, [.ref q_input, .int t_inputLength, .ref q_parser, .int t_parseCode, .int t_parsePosition, .ref q_now, .ref q_past, .ref q_slots, .ref q_slotUsed, .ref q_output, .ref q_choices, .ref q_stairs, .ref q_frontier, .ref q_search, .ref q_layering, .ref q_climber, .int t_frontierFresh, .int t_searchFresh, .int t_layersFresh]))]) [0] (by decide) rfl
    obtain ⟨sa, hsa⟩ := hT.2.1 (111, "no such length") (by decide)
    exact vx_throwS (own := RX10) (cls := "java/lang/IllegalArgumentException") (text := "no such length") (names := tx_names) (ik := 109) (is := 111) (ic := 113) (A := A) (mc := 1) (ms := 6) hx hb hst hown (by decide +kernel) (by decide +kernel) (hts (.classLink RX10 109 "java/lang/IllegalArgumentException") wd_1051) (hts (.initialized "java/lang/IllegalArgumentException") wd_129) hsa (tx_atIAE hT) (by decide +kernel) hT.2.2.1 hT.2.2.2.1 hS (hl.1.trans hml.symm) dX10_truncate_12 dX10_truncate_15 dX10_truncate_16 dX10_truncate_18 dX10_truncate_21 (fun x h => (htab x h).elim) (by decide) (Nat.le_of_ble_eq_true rfl) (Nat.le_of_ble_eq_true rfl) (Nat.le_of_ble_eq_true rfl) hlocks (fun t hal hz hk => ⟨(t_inputLength), trivial, ⟨hwp, tx_P hP9 hk, va_K.moved hal hK, hD9⟩, tx_F hS hz hk⟩) hS.2.2 (Nat.le_of_ble_eq_true rfl) (Nat.le_of_ble_eq_true rfl)
  · have hwp := hwp.2 c1
    refine lv_iload_n hx hb dX10_truncate_4 rfl (lv_at hl 1 rfl) ?_
    refine lv_aload_n hx hb dX10_truncate_5 rfl (lv_at hl 0 rfl) ?_
    refine va_get (D := D) (ci := 10) (v := .int t_inputLength) (C := RX10) (T := TX10) (N := 19) hx hb hts iwX10 hown hK hP 0 rfl rfl 1 (by decide) (hts (.fieldLink RX10 95 "ParetoDesk" "inputLength" "I") wd_494) (fun _ h9 => h9) rfl dX10_truncate_6 ?_
    refine lv_icmp_le (tgt := 22) hx hb dX10_truncate_9 (by decide) (fun c9 => ?_) (fun c9 => ?_)
    · have hwp := hwp.1 c9
      refine lv_aload_n hx hb dX10_truncate_22 rfl (lv_at hl 0 rfl) ?_
      refine lv_iload_n hx hb dX10_truncate_23 rfl (lv_at hl 1 rfl) ?_
      refine va_put (D := D) (ci := 10) (v := .int p1) (ty := .int) (C := RX10) (T := TX10) (N := 19) hx hb hts iwX10 tyX10 tyX10_ok nmX10 hown hK hP hD hS 0 rfl rfl 1 (by decide) (hts (.fieldLink RX10 95 "ParetoDesk" "inputLength" "I") wd_494) (fun _ h9 => h9) rfl (by decide +kernel) rfl rfl (Nat.le_of_ble_eq_true rfl) dX10_truncate_24 (fun H locs hP hD hS => ?_)
      have hP : va_P D vwCl [(q, .inr (10, [.ref q_input, .int p1, .ref q_parser, .int t_parseCode, .int t_parsePosition, .ref q_now, .ref q_past, .ref q_slots, .ref q_slotUsed, .ref q_output, .ref q_choices, .ref q_stairs, .ref q_frontier, .ref q_search, .ref q_layering, .ref q_climber, .int t_frontierFresh, .int t_searchFresh, .int t_layersFresh]))] H := hP
      have hD : va_D A [(q, .inr (10, [.ref q_input, .int p1, .ref q_parser, .int t_parseCode, .int t_parsePosition, .ref q_now, .ref q_past, .ref q_slots, .ref q_slotUsed, .ref q_output, .ref q_choices, .ref q_stairs, .ref q_frontier, .ref q_search, .ref q_layering, .ref q_climber, .int t_frontierFresh, .int t_searchFresh, .int t_layersFresh]))] := hD
      have hP9 := hP.sub (ws' := [(q, .inr (10, [.ref q_input, .int p1, .ref q_parser, .int t_parseCode, .int t_parsePosition, .ref q_now, .ref q_past, .ref q_slots, .ref q_slotUsed, .ref q_output, .ref q_choices, .ref q_stairs, .ref q_frontier, .ref q_search, .ref q_layering, .ref q_climber, .int t_frontierFresh, .int t_searchFresh, .int t_layersFresh]))]) [0] rfl
      have hD9 := hD.sub (ws' := [(q, .inr (10, [.ref q_input, .int p1, .ref q_parser, .int t_parseCode, .int t_parsePosition, .ref q_now, .ref q_past, .ref q_slots, .ref q_slotUsed, .ref q_output, .ref q_choices, .ref q_stairs, .ref q_frontier, .ref q_search, .ref q_layering, .ref q_climber, .int t_frontierFresh, .int t_searchFresh, .int t_layersFresh]))]) [0] (by decide) rfl
      refine vx_ret ?_
      refine W.widen (k := 1) (n := 6) (Nat.le_of_ble_eq_true rfl) (Nat.le_of_ble_eq_true rfl) ?_
      exact W.vret hx hb hr (fun t ht hW => ⟨⟨(p1), rfl, hwp, by rw [ht]; exact hP9, va_K.moved hW.alike hK, hD9⟩, hS.F ht⟩) hS.2.2 dX10_truncate_27
    · have hwp := hwp.2 c9
      have hP9 := hP.sub (ws' := [(q, .inr (10, [.ref q_input, .int t_inputLength, .ref q_parser, .int t_parseCode, .int t_parsePosition, .ref q_now, .ref q_past, .ref q_slots, .ref q_slotUsed, .ref q_output, .ref q_choices, .ref q_stairs, .ref q_frontier, .ref q_search, .ref q_layering, .ref q_climber, .int t_frontierFresh, .int t_searchFresh, .int t_layersFresh]))]) [0] rfl
      have hD9 := hD.sub (ws' := [(q, .inr (10, [.ref q_input, .int t_inputLength, .ref q_parser, .int t_parseCode, .int t_parsePosition, .ref q_now, .ref q_past, .ref q_slots, .ref q_slotUsed, .ref q_output, .ref q_choices, .ref q_stairs, .ref q_frontier, .ref q_search, .ref q_layering, .ref q_climber, .int t_frontierFresh, .int t_searchFresh, .int t_layersFresh]))]) [0] (by decide) rfl
      obtain ⟨sa, hsa⟩ := hT.2.1 (111, "no such length") (by decide)
      exact vx_throwS (own := RX10) (cls := "java/lang/IllegalArgumentException") (text := "no such length") (names := tx_names) (ik := 109) (is := 111) (ic := 113) (A := A) (mc := 1) (ms := 6) hx hb hst hown (by decide +kernel) (by decide +kernel) (hts (.classLink RX10 109 "java/lang/IllegalArgumentException") wd_1051) (hts (.initialized "java/lang/IllegalArgumentException") wd_129) hsa (tx_atIAE hT) (by decide +kernel) hT.2.2.1 hT.2.2.2.1 hS (hl.1.trans hml.symm) dX10_truncate_12 dX10_truncate_15 dX10_truncate_16 dX10_truncate_18 dX10_truncate_21 (fun x h => (htab x h).elim) (by decide) (Nat.le_of_ble_eq_true rfl) (Nat.le_of_ble_eq_true rfl) (Nat.le_of_ble_eq_true rfl) hlocks (fun t hal hz hk => ⟨(t_inputLength), trivial, ⟨hwp, tx_P hP9 hk, va_K.moved hal hK, hD9⟩, tx_F hS hz hk⟩) hS.2.2 (Nat.le_of_ble_eq_true rfl) (Nat.le_of_ble_eq_true rfl)
abbrev ws_X10_errorCode : List Cond := .code yX10_errorCode cX10_errorCode 1 (some .int) :: WALL
abbrev rm_X10_errorCode : Room := { frames := 0, cells := 0, slots := 0, locals := 0 }
abbrev w_X10_errorCode (C : Nat → ClassId) (q : Nat) (q_input : Nat) (q_parser : Nat) (q_now : Nat) (q_past : Nat) (q_slots : Nat) (q_slotUsed : Nat) (q_output : Nat) (q_choices : Nat) (q_stairs : Nat) (q_frontier : Nat) (q_search : Nat) (q_layering : Nat) (q_climber : Nat) (t_inputLength : Int32) (t_parseCode : Int32) (t_parsePosition : Int32) (t_frontierFresh : Int32) (t_searchFresh : Int32) (t_layersFresh : Int32) : va_W := [(q, .inr (10, [.ref q_input, .int t_inputLength, .ref q_parser, .int t_parseCode, .int t_parsePosition, .ref q_now, .ref q_past, .ref q_slots, .ref q_slotUsed, .ref q_output, .ref q_choices, .ref q_stairs, .ref q_frontier, .ref q_search, .ref q_layering, .ref q_climber, .int t_frontierFresh, .int t_searchFresh, .int t_layersFresh]))]
abbrev q_X10_errorCode (D : va_G) (C : Nat → ClassId) (q : Nat) (q_input : Nat) (q_parser : Nat) (q_now : Nat) (q_past : Nat) (q_slots : Nat) (q_slotUsed : Nat) (q_output : Nat) (q_choices : Nat) (q_stairs : Nat) (q_frontier : Nat) (q_search : Nat) (q_layering : Nat) (q_climber : Nat) (t_inputLength : Int32) (t_parseCode : Int32) (t_parsePosition : Int32) (t_frontierFresh : Int32) (t_searchFresh : Int32) (t_layersFresh : Int32) (Q : Int32 → Prop) (A : Nat → Prop) : Array Value → State → Outcome → State → Prop := va_Qi (fun (r : Int32) (u : Unit) => Q r) (fun (u : Unit) (t : State) => va_P D vwCl (w_X10_errorCode C q q_input q_parser q_now q_past q_slots q_slotUsed q_output q_choices q_stairs q_frontier q_search q_layering q_climber t_inputLength t_parseCode t_parsePosition t_frontierFresh t_searchFresh t_layersFresh) t.heap ∧ va_K D vwCl (tyL C) t ∧ va_D A (w_X10_errorCode C q q_input q_parser q_now q_past q_slots q_slotUsed q_output q_choices q_stairs q_frontier q_search q_layering q_climber t_inputLength t_parseCode t_parsePosition t_frontierFresh t_searchFresh t_layersFresh)) A
set_option maxHeartbeats 4000000 in
set_option maxRecDepth 100000 in
theorem met_X10_errorCode (l : Launch) (D : va_G) (C : Nat → ClassId) (q : Nat) (q_input : Nat) (q_parser : Nat) (q_now : Nat) (q_past : Nat) (q_slots : Nat) (q_slotUsed : Nat) (q_output : Nat) (q_choices : Nat) (q_stairs : Nat) (q_frontier : Nat) (q_search : Nat) (q_layering : Nat) (q_climber : Nat) (t_inputLength : Int32) (t_parseCode : Int32) (t_parsePosition : Int32) (t_frontierFresh : Int32) (t_searchFresh : Int32) (t_layersFresh : Int32) (sz : Nat) (Q : Int32 → Prop) (hwp : wp_X10_errorCode t_parseCode Q) : Met l yX10_errorCode ws_X10_errorCode rm_X10_errorCode (va_Pc [.ref q] (fun U => U.heap.size = sz ∧ va_P D vwCl (w_X10_errorCode C q q_input q_parser q_now q_past q_slots q_slotUsed q_output q_choices q_stairs q_frontier q_search q_layering q_climber t_inputLength t_parseCode t_parsePosition t_frontierFresh t_searchFresh t_layersFresh) U.heap ∧ va_K D vwCl (tyL C) U ∧ va_D (fun _ => True) (w_X10_errorCode C q q_input q_parser q_now q_past q_slots q_slotUsed q_output q_choices q_stairs q_frontier q_search q_layering q_climber t_inputLength t_parseCode t_parsePosition t_frontierFresh t_searchFresh t_layersFresh))) (q_X10_errorCode D C q q_input q_parser q_now q_past q_slots q_slotUsed q_output q_choices q_stairs q_frontier q_search q_layering q_climber t_inputLength t_parseCode t_parsePosition t_frontierFresh t_searchFresh t_layersFresh Q (va_A (w_X10_errorCode C q q_input q_parser q_now q_past q_slots q_slotUsed q_output q_choices q_stairs q_frontier q_search q_layering q_climber t_inputLength t_parseCode t_parsePosition t_frontierFresh t_searchFresh t_layersFresh) sz)) 0 0 (va_A (w_X10_errorCode C q q_input q_parser q_now q_past q_slots q_slotUsed q_output q_choices q_stairs q_frontier q_search q_layering q_climber t_inputLength t_parseCode t_parsePosition t_frontierFresh t_searchFresh t_layersFresh) sz) := by
  refine Met.ofW (cc := cX10_errorCode) (maxL := 1) (ret := (some .int)) (by decide) rfl ?_
  intro p e s m args below meth c s₁ B hml hv
  obtain ⟨rfl, hsz, hP, hK, hD0⟩ := hv
  have hx := B.exec
  have hb := B.bytes
  have hr := B.returns
  have hts : ∀ w ∈ WALL, w.before _ s = true := fun w h => atoms_spec (ws := ws_X10_errorCode) B.pre w (List.mem_cons_of_mem _ h)
  have hown : s.vm.findClass RX10 = some m.cls := findClass_of_methodNamed B.named
  have hlocks := B.notSynchronized
  subst hsz
  have hD := hD0.self (sz := s.heap.size)
  generalize hAe : va_A (w_X10_errorCode C q q_input q_parser q_now q_past q_slots q_slotUsed q_output q_choices q_stairs q_frontier q_search q_layering q_climber t_inputLength t_parseCode t_parsePosition t_frontierFresh t_searchFresh t_layersFresh) s.heap.size = A at hD ⊢
  have hA : ∀ q : Nat, s.heap.size ≤ q → A q := fun q h => by rw [← hAe]; exact Or.inr h
  have hS : va_S A s.heap s.heap [] := va_S.rf
  have hl := lv_entry ([.ref q]) (n := 1) (Nat.le_of_ble_eq_true rfl)
  rw [lg_entry_eq]
  generalize (lg_sl ([.ref q]) ++ List.replicate (1 - (lg_sl ([.ref q])).length) Slot.unset).toArray = ls at hl ⊢
  have hl : lv_has ls 1 [(0, .ref q)] := hl
  unfold wp_X10_errorCode at hwp
  obtain ⟨H, hH⟩ : ∃ H, H = s.heap := ⟨_, rfl⟩
  obtain ⟨locs, hlo⟩ : ∃ z : List Loc, z = [] := ⟨_, rfl⟩
  have hP : va_P D vwCl [(q, .inr (10, [.ref q_input, .int t_inputLength, .ref q_parser, .int t_parseCode, .int t_parsePosition, .ref q_now, .ref q_past, .ref q_slots, .ref q_slotUsed, .ref q_output, .ref q_choices, .ref q_stairs, .ref q_frontier, .ref q_search, .ref q_layering, .ref q_climber, .int t_frontierFresh, .int t_searchFresh, .int t_layersFresh]))] H := by rw [hH]; exact hP
  have hD : va_D A [(q, .inr (10, [.ref q_input, .int t_inputLength, .ref q_parser, .int t_parseCode, .int t_parsePosition, .ref q_now, .ref q_past, .ref q_slots, .ref q_slotUsed, .ref q_output, .ref q_choices, .ref q_stairs, .ref q_frontier, .ref q_search, .ref q_layering, .ref q_climber, .int t_frontierFresh, .int t_searchFresh, .int t_layersFresh]))] := hD
  have hS : va_S A s.heap H locs := by rw [hH, hlo]; exact hS
  suffices K : W p l e (headSpec ws_X10_errorCode rm_X10_errorCode).room s m ([.ref q] : List Value).toArray below meth c H locs 0 0 (MQ below (q_X10_errorCode D C q q_input q_parser q_now q_past q_slots q_slotUsed q_output q_choices q_stairs q_frontier q_search q_layering q_climber t_inputLength t_parseCode t_parsePosition t_frontierFresh t_searchFresh t_layersFresh Q A) ([.ref q] : List Value).toArray s 0 0 A) (F0 m 0 ls []) from by rw [hH, hlo] at K; exact K
  refine lv_aload_n hx hb dX10_errorCode_0 rfl (lv_at hl 0 rfl) ?_
  refine va_get (D := D) (ci := 10) (v := .int t_parseCode) (C := RX10) (T := TX10) (N := 19) hx hb hts iwX10 hown hK hP 0 rfl rfl 3 (by decide) (hts (.fieldLink RX10 121 "ParetoDesk" "parseCode" "I") wd_496) (fun _ h9 => h9) rfl dX10_errorCode_1 ?_
  have hP9 := hP.sub (ws' := [(q, .inr (10, [.ref q_input, .int t_inputLength, .ref q_parser, .int t_parseCode, .int t_parsePosition, .ref q_now, .ref q_past, .ref q_slots, .ref q_slotUsed, .ref q_output, .ref q_choices, .ref q_stairs, .ref q_frontier, .ref q_search, .ref q_layering, .ref q_climber, .int t_frontierFresh, .int t_searchFresh, .int t_layersFresh]))]) [0] rfl
  have hD9 := hD.sub (ws' := [(q, .inr (10, [.ref q_input, .int t_inputLength, .ref q_parser, .int t_parseCode, .int t_parsePosition, .ref q_now, .ref q_past, .ref q_slots, .ref q_slotUsed, .ref q_output, .ref q_choices, .ref q_stairs, .ref q_frontier, .ref q_search, .ref q_layering, .ref q_climber, .int t_frontierFresh, .int t_searchFresh, .int t_layersFresh]))]) [0] (by decide) rfl
  exact W.iret (v := t_parseCode) hx hb hr (fun t ht hW => ⟨⟨t_parseCode, (), rfl, hwp, by rw [ht]; exact hP9, va_K.moved hW.alike hK, hD9⟩, hS.F ht⟩) hS.2.2 dX10_errorCode_4
abbrev ws_X10_errorPosition : List Cond := .code yX10_errorPosition cX10_errorPosition 1 (some .int) :: WALL
abbrev rm_X10_errorPosition : Room := { frames := 0, cells := 0, slots := 0, locals := 0 }
abbrev w_X10_errorPosition (C : Nat → ClassId) (q : Nat) (q_input : Nat) (q_parser : Nat) (q_now : Nat) (q_past : Nat) (q_slots : Nat) (q_slotUsed : Nat) (q_output : Nat) (q_choices : Nat) (q_stairs : Nat) (q_frontier : Nat) (q_search : Nat) (q_layering : Nat) (q_climber : Nat) (t_inputLength : Int32) (t_parseCode : Int32) (t_parsePosition : Int32) (t_frontierFresh : Int32) (t_searchFresh : Int32) (t_layersFresh : Int32) : va_W := [(q, .inr (10, [.ref q_input, .int t_inputLength, .ref q_parser, .int t_parseCode, .int t_parsePosition, .ref q_now, .ref q_past, .ref q_slots, .ref q_slotUsed, .ref q_output, .ref q_choices, .ref q_stairs, .ref q_frontier, .ref q_search, .ref q_layering, .ref q_climber, .int t_frontierFresh, .int t_searchFresh, .int t_layersFresh]))]
abbrev q_X10_errorPosition (D : va_G) (C : Nat → ClassId) (q : Nat) (q_input : Nat) (q_parser : Nat) (q_now : Nat) (q_past : Nat) (q_slots : Nat) (q_slotUsed : Nat) (q_output : Nat) (q_choices : Nat) (q_stairs : Nat) (q_frontier : Nat) (q_search : Nat) (q_layering : Nat) (q_climber : Nat) (t_inputLength : Int32) (t_parseCode : Int32) (t_parsePosition : Int32) (t_frontierFresh : Int32) (t_searchFresh : Int32) (t_layersFresh : Int32) (Q : Int32 → Prop) (A : Nat → Prop) : Array Value → State → Outcome → State → Prop := va_Qi (fun (r : Int32) (u : Unit) => Q r) (fun (u : Unit) (t : State) => va_P D vwCl (w_X10_errorPosition C q q_input q_parser q_now q_past q_slots q_slotUsed q_output q_choices q_stairs q_frontier q_search q_layering q_climber t_inputLength t_parseCode t_parsePosition t_frontierFresh t_searchFresh t_layersFresh) t.heap ∧ va_K D vwCl (tyL C) t ∧ va_D A (w_X10_errorPosition C q q_input q_parser q_now q_past q_slots q_slotUsed q_output q_choices q_stairs q_frontier q_search q_layering q_climber t_inputLength t_parseCode t_parsePosition t_frontierFresh t_searchFresh t_layersFresh)) A
set_option maxHeartbeats 4000000 in
set_option maxRecDepth 100000 in
theorem met_X10_errorPosition (l : Launch) (D : va_G) (C : Nat → ClassId) (q : Nat) (q_input : Nat) (q_parser : Nat) (q_now : Nat) (q_past : Nat) (q_slots : Nat) (q_slotUsed : Nat) (q_output : Nat) (q_choices : Nat) (q_stairs : Nat) (q_frontier : Nat) (q_search : Nat) (q_layering : Nat) (q_climber : Nat) (t_inputLength : Int32) (t_parseCode : Int32) (t_parsePosition : Int32) (t_frontierFresh : Int32) (t_searchFresh : Int32) (t_layersFresh : Int32) (sz : Nat) (Q : Int32 → Prop) (hwp : wp_X10_errorPosition t_parsePosition Q) : Met l yX10_errorPosition ws_X10_errorPosition rm_X10_errorPosition (va_Pc [.ref q] (fun U => U.heap.size = sz ∧ va_P D vwCl (w_X10_errorPosition C q q_input q_parser q_now q_past q_slots q_slotUsed q_output q_choices q_stairs q_frontier q_search q_layering q_climber t_inputLength t_parseCode t_parsePosition t_frontierFresh t_searchFresh t_layersFresh) U.heap ∧ va_K D vwCl (tyL C) U ∧ va_D (fun _ => True) (w_X10_errorPosition C q q_input q_parser q_now q_past q_slots q_slotUsed q_output q_choices q_stairs q_frontier q_search q_layering q_climber t_inputLength t_parseCode t_parsePosition t_frontierFresh t_searchFresh t_layersFresh))) (q_X10_errorPosition D C q q_input q_parser q_now q_past q_slots q_slotUsed q_output q_choices q_stairs q_frontier q_search q_layering q_climber t_inputLength t_parseCode t_parsePosition t_frontierFresh t_searchFresh t_layersFresh Q (va_A (w_X10_errorPosition C q q_input q_parser q_now q_past q_slots q_slotUsed q_output q_choices q_stairs q_frontier q_search q_layering q_climber t_inputLength t_parseCode t_parsePosition t_frontierFresh t_searchFresh t_layersFresh) sz)) 0 0 (va_A (w_X10_errorPosition C q q_input q_parser q_now q_past q_slots q_slotUsed q_output q_choices q_stairs q_frontier q_search q_layering q_climber t_inputLength t_parseCode t_parsePosition t_frontierFresh t_searchFresh t_layersFresh) sz) := by
  refine Met.ofW (cc := cX10_errorPosition) (maxL := 1) (ret := (some .int)) (by decide) rfl ?_
  intro p e s m args below meth c s₁ B hml hv
  obtain ⟨rfl, hsz, hP, hK, hD0⟩ := hv
  have hx := B.exec
  have hb := B.bytes
  have hr := B.returns
  have hts : ∀ w ∈ WALL, w.before _ s = true := fun w h => atoms_spec (ws := ws_X10_errorPosition) B.pre w (List.mem_cons_of_mem _ h)
  have hown : s.vm.findClass RX10 = some m.cls := findClass_of_methodNamed B.named
  have hlocks := B.notSynchronized
  subst hsz
  have hD := hD0.self (sz := s.heap.size)
  generalize hAe : va_A (w_X10_errorPosition C q q_input q_parser q_now q_past q_slots q_slotUsed q_output q_choices q_stairs q_frontier q_search q_layering q_climber t_inputLength t_parseCode t_parsePosition t_frontierFresh t_searchFresh t_layersFresh) s.heap.size = A at hD ⊢
  have hA : ∀ q : Nat, s.heap.size ≤ q → A q := fun q h => by rw [← hAe]; exact Or.inr h
  have hS : va_S A s.heap s.heap [] := va_S.rf
  have hl := lv_entry ([.ref q]) (n := 1) (Nat.le_of_ble_eq_true rfl)
  rw [lg_entry_eq]
  generalize (lg_sl ([.ref q]) ++ List.replicate (1 - (lg_sl ([.ref q])).length) Slot.unset).toArray = ls at hl ⊢
  have hl : lv_has ls 1 [(0, .ref q)] := hl
  unfold wp_X10_errorPosition at hwp
  obtain ⟨H, hH⟩ : ∃ H, H = s.heap := ⟨_, rfl⟩
  obtain ⟨locs, hlo⟩ : ∃ z : List Loc, z = [] := ⟨_, rfl⟩
  have hP : va_P D vwCl [(q, .inr (10, [.ref q_input, .int t_inputLength, .ref q_parser, .int t_parseCode, .int t_parsePosition, .ref q_now, .ref q_past, .ref q_slots, .ref q_slotUsed, .ref q_output, .ref q_choices, .ref q_stairs, .ref q_frontier, .ref q_search, .ref q_layering, .ref q_climber, .int t_frontierFresh, .int t_searchFresh, .int t_layersFresh]))] H := by rw [hH]; exact hP
  have hD : va_D A [(q, .inr (10, [.ref q_input, .int t_inputLength, .ref q_parser, .int t_parseCode, .int t_parsePosition, .ref q_now, .ref q_past, .ref q_slots, .ref q_slotUsed, .ref q_output, .ref q_choices, .ref q_stairs, .ref q_frontier, .ref q_search, .ref q_layering, .ref q_climber, .int t_frontierFresh, .int t_searchFresh, .int t_layersFresh]))] := hD
  have hS : va_S A s.heap H locs := by rw [hH, hlo]; exact hS
  suffices K : W p l e (headSpec ws_X10_errorPosition rm_X10_errorPosition).room s m ([.ref q] : List Value).toArray below meth c H locs 0 0 (MQ below (q_X10_errorPosition D C q q_input q_parser q_now q_past q_slots q_slotUsed q_output q_choices q_stairs q_frontier q_search q_layering q_climber t_inputLength t_parseCode t_parsePosition t_frontierFresh t_searchFresh t_layersFresh Q A) ([.ref q] : List Value).toArray s 0 0 A) (F0 m 0 ls []) from by rw [hH, hlo] at K; exact K
  refine lv_aload_n hx hb dX10_errorPosition_0 rfl (lv_at hl 0 rfl) ?_
  refine va_get (D := D) (ci := 10) (v := .int t_parsePosition) (C := RX10) (T := TX10) (N := 19) hx hb hts iwX10 hown hK hP 0 rfl rfl 4 (by decide) (hts (.fieldLink RX10 20 "ParetoDesk" "parsePosition" "I") wd_497) (fun _ h9 => h9) rfl dX10_errorPosition_1 ?_
  have hP9 := hP.sub (ws' := [(q, .inr (10, [.ref q_input, .int t_inputLength, .ref q_parser, .int t_parseCode, .int t_parsePosition, .ref q_now, .ref q_past, .ref q_slots, .ref q_slotUsed, .ref q_output, .ref q_choices, .ref q_stairs, .ref q_frontier, .ref q_search, .ref q_layering, .ref q_climber, .int t_frontierFresh, .int t_searchFresh, .int t_layersFresh]))]) [0] rfl
  have hD9 := hD.sub (ws' := [(q, .inr (10, [.ref q_input, .int t_inputLength, .ref q_parser, .int t_parseCode, .int t_parsePosition, .ref q_now, .ref q_past, .ref q_slots, .ref q_slotUsed, .ref q_output, .ref q_choices, .ref q_stairs, .ref q_frontier, .ref q_search, .ref q_layering, .ref q_climber, .int t_frontierFresh, .int t_searchFresh, .int t_layersFresh]))]) [0] (by decide) rfl
  exact W.iret (v := t_parsePosition) hx hb hr (fun t ht hW => ⟨⟨t_parsePosition, (), rfl, hwp, by rw [ht]; exact hP9, va_K.moved hW.alike hK, hD9⟩, hS.F ht⟩) hS.2.2 dX10_errorPosition_4
abbrev ws_X10_requireWhat : List Cond := .code yX10_requireWhat cX10_requireWhat 2 none :: WALL
abbrev rm_X10_requireWhat : Room := { frames := 6, cells := 1, slots := 6, locals := 90 }
abbrev w_X10_requireWhat (C : Nat → ClassId) : va_W := []
abbrev q_X10_requireWhat (D : va_G) (C : Nat → ClassId) (Q : Prop) (A : Nat → Prop) : Array Value → State → Outcome → State → Prop := va_Qv (fun (u : Unit) => Q) (fun (u : Unit) (t : State) => va_P D vwCl (w_X10_requireWhat C ) t.heap ∧ va_K D vwCl (tyL C) t ∧ va_D A (w_X10_requireWhat C )) A
abbrev x_X10_requireWhat (D : va_G) (C : Nat → ClassId) (QX : String → Prop) (A : Nat → Prop) : String → State → State → Prop := vx_X (fun (_ : Unit) => True) (fun (E : String) (u : Unit) (t : State) => QX E ∧ va_P D vwCl (w_X10_requireWhat C ) t.heap ∧ va_K D vwCl (tyL C) t ∧ va_D A (w_X10_requireWhat C )) A
set_option maxHeartbeats 4000000 in
set_option maxRecDepth 100000 in
theorem met_X10_requireWhat (l : Launch) (hst : l.stackTraces = false) (D : va_G) (C : Nat → ClassId) (p0 : Int32) (p1 : Int32) (sz : Nat) (Q : Prop) (QX : String → Prop) (hwp : wp_X10_requireWhat p0 p1 Q QX) : vx_Met l yX10_requireWhat ws_X10_requireWhat rm_X10_requireWhat (va_Pc [.int p0, .int p1] (fun U => U.heap.size = sz ∧ va_P D vwCl (w_X10_requireWhat C ) U.heap ∧ va_K D vwCl (tyL C) U ∧ va_D (fun _ => True) (w_X10_requireWhat C ) ∧ TX (va_A (w_X10_requireWhat C ) sz) U U.heap)) (q_X10_requireWhat D C  Q (va_A (w_X10_requireWhat C ) sz)) (x_X10_requireWhat D C  QX (va_A (w_X10_requireWhat C ) sz)) 1 6 (va_A (w_X10_requireWhat C ) sz) := by
  refine vx_ofW (cc := cX10_requireWhat) (maxL := 2) (ret := none) (by decide) rfl ?_
  intro p e s m args below meth c s₁ B hml htab hv
  obtain ⟨rfl, hsz, hP, hK, hD0, hT⟩ := hv
  have hx := B.exec
  have hb := B.bytes
  have hr := B.returns
  have hts : ∀ w ∈ WALL, w.before _ s = true := fun w h => atoms_spec (ws := ws_X10_requireWhat) B.pre w (List.mem_cons_of_mem _ h)
  have hown : s.vm.findClass RX10 = some m.cls := findClass_of_methodNamed B.named
  have hlocks := B.notSynchronized
  subst hsz
  have hD := hD0.self (sz := s.heap.size)
  generalize hAe : va_A (w_X10_requireWhat C ) s.heap.size = A at hD ⊢ hT
  have hA : ∀ q : Nat, s.heap.size ≤ q → A q := fun q h => by rw [← hAe]; exact Or.inr h
  have hS : va_S A s.heap s.heap [] := va_S.rf
  have hl := lv_entry ([.int p0, .int p1]) (n := 2) (Nat.le_of_ble_eq_true rfl)
  rw [lg_entry_eq]
  generalize (lg_sl ([.int p0, .int p1]) ++ List.replicate (2 - (lg_sl ([.int p0, .int p1])).length) Slot.unset).toArray = ls at hl ⊢
  have hl : lv_has ls 2 [(0, .int p0), (1, .int p1)] := hl
  unfold wp_X10_requireWhat at hwp
  obtain ⟨H, hH⟩ : ∃ H, H = s.heap := ⟨_, rfl⟩
  obtain ⟨locs, hlo⟩ : ∃ z : List Loc, z = [] := ⟨_, rfl⟩
  have hP : va_P D vwCl [] H := by rw [hH]; exact hP
  have hD : va_D A [] := hD
  have hS : va_S A s.heap H locs := by rw [hH, hlo]; exact hS
  suffices K : W p l e (headSpec ws_X10_requireWhat rm_X10_requireWhat).room s m ([.int p0, .int p1] : List Value).toArray below meth c H locs 0 0 (vx_MQ below (q_X10_requireWhat D C Q A) (x_X10_requireWhat D C QX A) ([.int p0, .int p1] : List Value).toArray s 1 6 A) (F0 m 0 ls []) from by rw [hH, hlo] at K; exact K
  refine lv_iload_n hx hb dX10_requireWhat_0 rfl (lv_at hl 0 rfl) ?_
  refine lv_if_lt (tgt := 9) hx hb dX10_requireWhat_1 (by decide) (fun c1 => ?_) (fun c1 => ?_)
  · have hwp := hwp.1 c1
    have hP9 := hP.sub (ws' := []) [] rfl
    have hD9 := hD.sub (ws' := []) [] (by decide) rfl
    obtain ⟨sa, hsa⟩ := hT.2.1 (432, "no such number is told") (by decide)
    exact vx_throwSW (own := RX10) (cls := "java/lang/IllegalArgumentException") (text := "no such number is told") (names := tx_names) (ik := 109) (is := 432) (ic := 113) (A := A) (mc := 1) (ms := 6) hx hb hst hown (by decide +kernel) (by decide +kernel) (hts (.classLink RX10 109 "java/lang/IllegalArgumentException") wd_1051) (hts (.initialized "java/lang/IllegalArgumentException") wd_129) hsa (tx_atIAE hT) (by decide +kernel) hT.2.2.1 hT.2.2.2.1 hS (hl.1.trans hml.symm) dX10_requireWhat_9 dX10_requireWhat_12 dX10_requireWhat_13 dX10_requireWhat_16 dX10_requireWhat_19 (fun x h => (htab x h).elim) (by decide) (Nat.le_of_ble_eq_true rfl) (Nat.le_of_ble_eq_true rfl) (Nat.le_of_ble_eq_true rfl) hlocks (fun t hal hz hk => ⟨(), trivial, ⟨hwp, tx_P hP9 hk, va_K.moved hal hK, hD9⟩, tx_F hS hz hk⟩) hS.2.2 (Nat.le_of_ble_eq_true rfl) (Nat.le_of_ble_eq_true rfl)
  · have hwp := hwp.2 c1
    refine lv_iload_n hx hb dX10_requireWhat_4 rfl (lv_at hl 0 rfl) ?_
    refine lv_iload_n hx hb dX10_requireWhat_5 rfl (lv_at hl 1 rfl) ?_
    refine lv_icmp_le (tgt := 20) hx hb dX10_requireWhat_6 (by decide) (fun c6 => ?_) (fun c6 => ?_)
    · have hwp := hwp.1 c6
      have hP9 := hP.sub (ws' := []) [] rfl
      have hD9 := hD.sub (ws' := []) [] (by decide) rfl
      refine vx_ret ?_
      refine W.widen (k := 1) (n := 6) (Nat.le_of_ble_eq_true rfl) (Nat.le_of_ble_eq_true rfl) ?_
      exact W.vret hx hb hr (fun t ht hW => ⟨⟨(), rfl, hwp, by rw [ht]; exact hP9, va_K.moved hW.alike hK, hD9⟩, hS.F ht⟩) hS.2.2 dX10_requireWhat_20
    · have hwp := hwp.2 c6
      have hP9 := hP.sub (ws' := []) [] rfl
      have hD9 := hD.sub (ws' := []) [] (by decide) rfl
      obtain ⟨sa, hsa⟩ := hT.2.1 (432, "no such number is told") (by decide)
      exact vx_throwSW (own := RX10) (cls := "java/lang/IllegalArgumentException") (text := "no such number is told") (names := tx_names) (ik := 109) (is := 432) (ic := 113) (A := A) (mc := 1) (ms := 6) hx hb hst hown (by decide +kernel) (by decide +kernel) (hts (.classLink RX10 109 "java/lang/IllegalArgumentException") wd_1051) (hts (.initialized "java/lang/IllegalArgumentException") wd_129) hsa (tx_atIAE hT) (by decide +kernel) hT.2.2.1 hT.2.2.2.1 hS (hl.1.trans hml.symm) dX10_requireWhat_9 dX10_requireWhat_12 dX10_requireWhat_13 dX10_requireWhat_16 dX10_requireWhat_19 (fun x h => (htab x h).elim) (by decide) (Nat.le_of_ble_eq_true rfl) (Nat.le_of_ble_eq_true rfl) (Nat.le_of_ble_eq_true rfl) hlocks (fun t hal hz hk => ⟨(), trivial, ⟨hwp, tx_P hP9 hk, va_K.moved hal hK, hD9⟩, tx_F hS hz hk⟩) hS.2.2 (Nat.le_of_ble_eq_true rfl) (Nat.le_of_ble_eq_true rfl)
