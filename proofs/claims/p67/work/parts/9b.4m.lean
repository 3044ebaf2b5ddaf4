abbrev ws_J7_checkLength_df160 : List Cond := .code yJ7_checkLength_df160 cJ7_checkLength_df160 2 none :: WALL
abbrev rm_J7_checkLength_df160 : Room := { frames := 0, cells := 0, slots := 0, locals := 0 }
abbrev w_J7_checkLength_df160 (C : Nat → ClassId) : va_W := []
abbrev q_J7_checkLength_df160 (D : va_G) (C : Nat → ClassId) (Q : Prop) (A : Nat → Prop) : Array Value → State → Outcome → State → Prop := va_Qv (fun (u : Unit) => Q) (fun (u : Unit) (t : State) => va_P D vwCl (w_J7_checkLength_df160 C ) t.heap ∧ va_K D vwCl (tyL C) t ∧ va_D A (w_J7_checkLength_df160 C )) A
set_option maxHeartbeats 4000000 in
set_option maxRecDepth 100000 in
theorem met_J7_checkLength_df160 (l : Launch) (D : va_G) (C : Nat → ClassId) (p0 : Int32) (p1 : Int32) (sz : Nat) (Q : Prop) (hwp : wp_J7_checkLength_df160 p0 p1 Q) : Met l yJ7_checkLength_df160 ws_J7_checkLength_df160 rm_J7_checkLength_df160 (va_Pc [.int p0, .int p1] (fun U => U.heap.size = sz ∧ va_P D vwCl (w_J7_checkLength_df160 C ) U.heap ∧ va_K D vwCl (tyL C) U ∧ va_D (fun _ => True) (w_J7_checkLength_df160 C ))) (q_J7_checkLength_df160 D C  Q (va_A (w_J7_checkLength_df160 C ) sz)) 0 0 (va_A (w_J7_checkLength_df160 C ) sz) := by
  refine Met.ofW (cc := cJ7_checkLength_df160) (maxL := 2) (ret := none) (by decide) rfl ?_
  intro p e s m args below meth c s₁ B hml hv
  obtain ⟨rfl, hsz, hP, hK, hD0⟩ := hv
  have hx := B.exec
  have hb := B.bytes
  have hr := B.returns
  have hts : ∀ w ∈ WALL, w.before _ s = true := fun w h => atoms_spec (ws := ws_J7_checkLength_df160) B.pre w (List.mem_cons_of_mem _ h)
  have hown : s.vm.findClass RJ7 = some m.cls := findClass_of_methodNamed B.named
  have hlocks := B.notSynchronized
  subst hsz
  have hD := hD0.self (sz := s.heap.size)
  generalize hAe : va_A (w_J7_checkLength_df160 C ) s.heap.size = A at hD ⊢
  have hA : ∀ q : Nat, s.heap.size ≤ q → A q := fun q h => by rw [← hAe]; exact Or.inr h
  have hS : va_S A s.heap s.heap [] := va_S.rf
  have hl := lv_entry ([.int p0, .int p1]) (n := 2) (Nat.le_of_ble_eq_true rfl)
  rw [lg_entry_eq]
  generalize (lg_sl ([.int p0, .int p1]) ++ List.replicate (2 - (lg_sl ([.int p0, .int p1])).length) Slot.unset).toArray = ls at hl ⊢
  have hl : lv_has ls 2 [(0, .int p0), (1, .int p1)] := hl
  unfold wp_J7_checkLength_df160 at hwp
  obtain ⟨H, hH⟩ : ∃ H, H = s.heap := ⟨_, rfl⟩
  obtain ⟨locs, hlo⟩ : ∃ z : List Loc, z = [] := ⟨_, rfl⟩
  have hP : va_P D vwCl [] H := by rw [hH]; exact hP
  have hD : va_D A [] := hD
  have hS : va_S A s.heap H locs := by rw [hH, hlo]; exact hS
  suffices K : W p l e (headSpec ws_J7_checkLength_df160 rm_J7_checkLength_df160).room s m ([.int p0, .int p1] : List Value).toArray below meth c H locs 0 0 (MQ below (q_J7_checkLength_df160 D C Q A) ([.int p0, .int p1] : List Value).toArray s 0 0 A) (F0 m 0 ls []) from by rw [hH, hlo] at K; exact K
  refine lv_iload_n hx hb dJ7_checkLength_df160_0 rfl (lv_at hl 1 rfl) ?_
  refine lv_iload_n hx hb dJ7_checkLength_df160_1 rfl (lv_at hl 0 rfl) ?_
  refine lv_icmp_ge (tgt := 37) hx hb dJ7_checkLength_df160_2 (by decide) (fun c2 => ?_) (fun c2 => ?_)
  · have hwp := hwp.1 c2
    have hP9 := hP.sub (ws' := []) [] rfl
    have hD9 := hD.sub (ws' := []) [] (by decide) rfl
    exact W.vret hx hb hr (fun t ht hW => ⟨⟨(), rfl, hwp, by rw [ht]; exact hP9, va_K.moved hW.alike hK, hD9⟩, hS.F ht⟩) hS.2.2 dJ7_checkLength_df160_37
  · have hwp := hwp.2 c2
    exact False.elim hwp

abbrev ws_J7_copyOfRangeByte_39247 : List Cond := .code yJ7_copyOfRangeByte_39247 cJ7_copyOfRangeByte_39247 5 (some (.array .byte)) :: WALL
theorem gc_J7_343 : GoodIn WALL (va_wsS RJ7 343 yJ7_checkLength_df160 ws_J7_checkLength_df160) := gc_s wd_794 wd_795 wd_52 wd_796
abbrev rm_J7_copyOfRangeByte_39247 (mc ms : Nat) : Room := { frames := 1, cells := mc, slots := ms, locals := 64 }
abbrev w_J7_copyOfRangeByte_39247 (C : Nat → ClassId) (q0 : Nat) (tn0 : Nat) (t0 : Nat → Int32) : va_W := [(q0, .inl (C 1, tn0, .inl t0))]
abbrev wo_J7_copyOfRangeByte_39247 (C : Nat → ClassId) (q0 : Nat) (tn0 : Nat) (t0 : Nat → Int32) (rp : Nat) (rn : Nat) (rf : Nat → Int32) : va_W := [(q0, .inl (C 1, tn0, .inl t0)), (rp, .inl (C 1, rn, .inl rf))]
abbrev q_J7_copyOfRangeByte_39247 (D : va_G) (C : Nat → ClassId) (q0 : Nat) (tn0 : Nat) (t0 : Nat → Int32) (Q : Nat → Nat → (Nat → Int32) → Prop) (A : Nat → Prop) : Array Value → State → Outcome → State → Prop := va_Qr (fun (u : Nat × Nat × (Nat → Int32)) => Q u.1 u.2.1 u.2.2) (fun (u : Nat × Nat × (Nat → Int32)) (a : Nat) (t : State) => a = u.1 ∧ va_P D vwCl (wo_J7_copyOfRangeByte_39247 C q0 tn0 t0 u.1 u.2.1 u.2.2) t.heap ∧ va_K D vwCl (tyL C) t ∧ va_D A (wo_J7_copyOfRangeByte_39247 C q0 tn0 t0 u.1 u.2.1 u.2.2)) A
set_option maxHeartbeats 4000000 in
set_option maxRecDepth 100000 in
theorem met_J7_copyOfRangeByte_39247 (l : Launch) (hst : l.stackTraces = false) (D : va_G) (C : Nat → ClassId) (q0 : Nat) (p1 : Int32) (p2 : Int32) (tn0 : Nat) (t0 : Nat → Int32) (mc : Nat) (ms : Nat) (sz : Nat) (Q : Nat → Nat → (Nat → Int32) → Prop) (hwp : wp_J7_copyOfRangeByte_39247 p1 p2 tn0 t0 mc ms Q) : Met l yJ7_copyOfRangeByte_39247 ws_J7_copyOfRangeByte_39247 (rm_J7_copyOfRangeByte_39247 mc ms) (va_Pc [.ref q0, .int p1, .int p2] (fun U => U.heap.size = sz ∧ va_P D vwCl (w_J7_copyOfRangeByte_39247 C q0 tn0 t0) U.heap ∧ va_K D vwCl (tyL C) U ∧ va_D (fun _ => True) (w_J7_copyOfRangeByte_39247 C q0 tn0 t0) ∧ TX (va_A (w_J7_copyOfRangeByte_39247 C q0 tn0 t0) sz) U U.heap)) (q_J7_copyOfRangeByte_39247 D C q0 tn0 t0 Q (va_A (w_J7_copyOfRangeByte_39247 C q0 tn0 t0) sz)) mc ms (va_A (w_J7_copyOfRangeByte_39247 C q0 tn0 t0) sz) := by
  refine Met.ofW (cc := cJ7_copyOfRangeByte_39247) (maxL := 5) (ret := (some (.array .byte))) (by decide) rfl ?_
  intro p e s m args below meth c s₁ B hml hv
  obtain ⟨rfl, hsz, hP, hK, hD0, hT⟩ := hv
  have hx := B.exec
  have hb := B.bytes
  have hr := B.returns
  have hts : ∀ w ∈ WALL, w.before _ s = true := fun w h => atoms_spec (ws := ws_J7_copyOfRangeByte_39247) B.pre w (List.mem_cons_of_mem _ h)
  have hown : s.vm.findClass RJ7 = some m.cls := findClass_of_methodNamed B.named
  have hlocks := B.notSynchronized
  subst hsz
  have hD := hD0.self (sz := s.heap.size)
  generalize hAe : va_A (w_J7_copyOfRangeByte_39247 C q0 tn0 t0) s.heap.size = A at hD ⊢ hT
  have hA : ∀ q : Nat, s.heap.size ≤ q → A q := fun q h => by rw [← hAe]; exact Or.inr h
  have hS : va_S A s.heap s.heap [] := va_S.rf
  have hl := lv_entry ([.ref q0, .int p1, .int p2]) (n := 5) (Nat.le_of_ble_eq_true rfl)
  rw [lg_entry_eq]
  generalize (lg_sl ([.ref q0, .int p1, .int p2]) ++ List.replicate (5 - (lg_sl ([.ref q0, .int p1, .int p2])).length) Slot.unset).toArray = ls at hl ⊢
  have hl : lv_has ls 5 [(0, .ref q0), (1, .int p1), (2, .int p2)] := hl
  unfold wp_J7_copyOfRangeByte_39247 at hwp
  obtain ⟨H, hH⟩ : ∃ H, H = s.heap := ⟨_, rfl⟩
  obtain ⟨locs, hlo⟩ : ∃ z : List Loc, z = [] := ⟨_, rfl⟩
  have hP : va_P D vwCl [(q0, .inl (C 1, tn0, .inl t0))] H := by rw [hH]; exact hP
  have hD : va_D A [(q0, .inl (C 1, tn0, .inl t0))] := hD
  have hS : va_S A s.heap H locs := by rw [hH, hlo]; exact hS
  suffices K : W p l e (headSpec ws_J7_copyOfRangeByte_39247 (rm_J7_copyOfRangeByte_39247 mc ms)).room s m ([.ref q0, .int p1, .int p2] : List Value).toArray below meth c H locs 0 0 (MQ below (q_J7_copyOfRangeByte_39247 D C q0 tn0 t0 Q A) ([.ref q0, .int p1, .int p2] : List Value).toArray s mc ms A) (F0 m 0 ls []) from by rw [hH, hlo] at K; exact K
  refine lv_iload_n hx hb dJ7_copyOfRangeByte_39247_0 rfl (lv_at hl 1 rfl) ?_
  refine lv_iload_n hx hb dJ7_copyOfRangeByte_39247_1 rfl (lv_at hl 2 rfl) ?_
  have hPc := hP.sub (ws' := []) [] rfl
  have hDc := hD.sub (ws' := []) [] (by decide) rfl
  have hFc := va_free (wc := []) hD hS hA [] rfl
  obtain ⟨hbk, hwp⟩ := hwp
  refine va_callv (va_runS (As := [.int p1, .int p2]) (rest := []) ⟨hx, hb, hml, hown, hts⟩ (met_J7_checkLength_df160 l D C p1 p2 H.size _ hwp) (va_cwS 2 hts gc_J7_343 rfl rfl rfl (by decide +kernel) ⟨Nat.le_of_ble_eq_true rfl, Nat.le_of_ble_eq_true rfl⟩) ⟨fun a U g mk q => by obtain ⟨q0, q1, qP, qK, qD⟩ := q; exact ⟨q0, q1, qP, va_K.moved (u := U) (U := U.calling g mk a) (Vm.Alike.refl U.vm) qK, qD⟩, fun U hU hW => ⟨rfl, by rw [hU], by rw [hU]; exact hPc, va_K.moved hW.alike hK, hDc.weaken (fun _ _ _ _ => trivial)⟩⟩ rfl rfl hl.1 rfl (lv_room (Nat.le_of_ble_eq_true rfl)) dJ7_copyOfRangeByte_39247_2 ⟨hbk.1, hbk.2⟩) hS (fun q _ h => hFc q h) hFc (fun u t H1 locs ht hvm hwp hB hz1 hk1 hS => ?_)
  obtain ⟨hP1, -, hD1⟩ := hB
  rw [ht] at hP1
  obtain ⟨hP, hD⟩ := va_join (wr := [(q0, .inl (C 1, tn0, .inl t0))]) (w1 := []) hP hD [] [0] rfl rfl (by decide) (by decide) hk1 hFc hP1 hD1
  generalize H1 = H at hP hS ⊢
  have hP : va_P D vwCl [(q0, .inl (C 1, tn0, .inl t0))] H := hP
  have hD : va_D A [(q0, .inl (C 1, tn0, .inl t0))] := hD
  refine lv_iload_n hx hb dJ7_copyOfRangeByte_39247_5 rfl (lv_at hl 2 rfl) ?_
  refine lv_iload_n hx hb dJ7_copyOfRangeByte_39247_6 rfl (lv_at hl 1 rfl) ?_
  refine lv_isub hx hb dJ7_copyOfRangeByte_39247_7 ?_
  refine lv_topi (fun v8 ev8 => ?_)
  have hwp := hwp v8 ev8
  refine lv_istore_n (lv' := [(3, .int v8), (0, .ref q0), (1, .int p1), (2, .int p2)]) hx hb dJ7_copyOfRangeByte_39247_8 rfl hl (by decide) rfl (fun ls hl => ?_)
  refine lv_iload_n hx hb dJ7_copyOfRangeByte_39247_9 rfl (lv_at hl 0 rfl) ?_
  obtain ⟨hnn, hwp⟩ := hwp
  obtain ⟨hbk, hwp⟩ := hwp
  refine va_newa (atype := .byte) (N' := v8.toNatClampNeg) (a0 := (v8.toNatClampNeg, .inl (fun _ => 0))) hx hb (hts (.arrayClass .byte) wd_145) rfl hK hP hD hS hA (fun cA => rfl) hnn.1 rfl (by have := hnn.2; show _ * 1 ≤ _; omega) hbk.1 hbk.2 dJ7_copyOfRangeByte_39247_10 (fun a10 cA H hK1 hP hD hS => ?_)
  obtain rfl : cA = C 1 := Option.some.inj ((hK1.2 4 _ rfl).2.symm.trans (hK.2 1 _ rfl).2)
  clear hK1
  have hP : va_P D vwCl [(q0, .inl (C 1, tn0, .inl t0)), (a10, .inl (C 1, v8.toNatClampNeg, .inl (fun _ => 0)))] H := hP
  have hD : va_D A [(q0, .inl (C 1, tn0, .inl t0)), (a10, .inl (C 1, v8.toNatClampNeg, .inl (fun _ => 0)))] := hD
  have hwp := hwp a10
  refine lv_astore (lv' := [(4, .ref a10), (3, .int v8), (0, .ref q0), (1, .int p1), (2, .int p2)]) hx hb dJ7_copyOfRangeByte_39247_12 hl (by decide) rfl (fun ls hl => ?_)
  refine lv_aload_n hx hb dJ7_copyOfRangeByte_39247_14 rfl (lv_at hl 2 rfl) ?_
  refine lv_iload_n hx hb dJ7_copyOfRangeByte_39247_15 rfl (lv_at hl 3 rfl) ?_
  refine lv_aload hx hb dJ7_copyOfRangeByte_39247_16 (lv_at hl 0 rfl) ?_
  refine lv_iconst (v := 0) hx hb dJ7_copyOfRangeByte_39247_18 (by decide) ?_
  refine lv_aload_n hx hb dJ7_copyOfRangeByte_39247_19 rfl (lv_at hl 2 rfl) ?_
  refine va_alen (D := D) hx hb hK hP 0 1 rfl rfl (v := Int32.ofNat tn0) rfl dJ7_copyOfRangeByte_39247_20 ?_
  refine lv_iload_n hx hb dJ7_copyOfRangeByte_39247_21 rfl (lv_at hl 3 rfl) ?_
  refine lv_isub hx hb dJ7_copyOfRangeByte_39247_22 ?_
  refine lv_iload_n hx hb dJ7_copyOfRangeByte_39247_23 rfl (lv_at hl 1 rfl) ?_
  obtain ⟨hbk, hwp⟩ := hwp
  refine va_mmin (own := RJ7) (index := 304) hx hb (hml.trans hl.1.symm) hown (hts (.methodLink RJ7 304 Lib.Math.min.name) wd_644) (hts (.static Lib.Math.min.name) wd_645) (hts (.initialized "java/lang/Math") wd_51) (hts (.code Lib.Math.min.name Lib.Math.min.code 2 (some .int)) wd_646_0) (Nat.le_of_ble_eq_true rfl) (Nat.le_of_ble_eq_true rfl) hbk.1 hbk.2 dJ7_copyOfRangeByte_39247_24 ?_
  obtain ⟨⟨g1, g2, g3, g4, g5, g6⟩, hwp⟩ := hwp
  refine va_copyi (D := D) (own := RJ7) (index := 150) hx hb (hml.trans hl.1.symm) hown (hts (.methodLink RJ7 150 arraycopyName) wd_647) (hts (.native arraycopyName) wd_557) (hts (.static arraycopyName) wd_556) (hts (.initialized "java/lang/System") wd_53) hK hP hD hS 0 1 1 1 rfl rfl rfl rfl rfl g1 g2 g3 g4 g5 g6 (Nat.le_of_ble_eq_true rfl) (Nat.le_of_ble_eq_true rfl) dJ7_copyOfRangeByte_39247_27 (fun H locs hP hD hS => ?_)
  have hP : va_P D vwCl [(q0, .inl (C 1, tn0, .inl t0)), (a10, .inl (C 1, v8.toNatClampNeg, .inl (va_cpy t0 (fun _ => 0) p1.toNatClampNeg (0 : Int32).toNatClampNeg (if v8 < ((Int32.ofNat tn0) - p1) then v8 else (Int32.ofNat tn0) - p1).toNatClampNeg)))] H := hP
  have hD : va_D A [(q0, .inl (C 1, tn0, .inl t0)), (a10, .inl (C 1, v8.toNatClampNeg, .inl (va_cpy t0 (fun _ => 0) p1.toNatClampNeg (0 : Int32).toNatClampNeg (if v8 < ((Int32.ofNat tn0) - p1) then v8 else (Int32.ofNat tn0) - p1).toNatClampNeg)))] := hD
  refine lv_aload hx hb dJ7_copyOfRangeByte_39247_30 (lv_at hl 0 rfl) ?_
  obtain ⟨hbk, hwp⟩ := hwp
  have hP9 := hP.sub (ws' := [(q0, .inl (C 1, tn0, .inl t0)), (a10, .inl (C 1, v8.toNatClampNeg, .inl (va_cpy t0 (fun _ => 0) p1.toNatClampNeg (0 : Int32).toNatClampNeg (if v8 < ((Int32.ofNat tn0) - p1) then v8 else (Int32.ofNat tn0) - p1).toNatClampNeg)))]) [0, 1] rfl
  have hD9 := hD.sub (ws' := [(q0, .inl (C 1, tn0, .inl t0)), (a10, .inl (C 1, v8.toNatClampNeg, .inl (va_cpy t0 (fun _ => 0) p1.toNatClampNeg (0 : Int32).toNatClampNeg (if v8 < ((Int32.ofNat tn0) - p1) then v8 else (Int32.ofNat tn0) - p1).toNatClampNeg)))]) [0, 1] (by decide) rfl
  refine W.widen (k := mc) (n := ms) hbk.1 hbk.2 ?_
  exact W.aret (v := .ref a10) (rt := (.array .byte)) hx hb hr (Or.inr ⟨_, rfl⟩) (Or.inr ⟨_, rfl⟩) (fun t ht hW => ⟨⟨(a10, v8.toNatClampNeg, va_cpy t0 (fun _ => 0) p1.toNatClampNeg (0 : Int32).toNatClampNeg (if v8 < ((Int32.ofNat tn0) - p1) then v8 else (Int32.ofNat tn0) - p1).toNatClampNeg), a10, rfl, hwp, rfl, by rw [ht]; exact hP9, va_K.moved hW.alike hK, hD9⟩, hS.F ht⟩) hS.2.2 dJ7_copyOfRangeByte_39247_32

abbrev ws_J7_copyOfRange_39247 : List Cond := .code yJ7_copyOfRange_39247 cJ7_copyOfRange_39247 3 (some (.array .byte)) :: WALL
theorem gc_J7_339 : GoodIn WALL (va_wsS RJ7 339 yJ7_copyOfRangeByte_39247 ws_J7_copyOfRangeByte_39247) := gc_s wd_791 wd_792 wd_52 wx_793_0
abbrev rm_J7_copyOfRange_39247 (mc ms : Nat) : Room := { frames := 2, cells := mc, slots := ms, locals := 88 }
abbrev w_J7_copyOfRange_39247 (C : Nat → ClassId) (q0 : Nat) (tn0 : Nat) (t0 : Nat → Int32) : va_W := [(q0, .inl (C 1, tn0, .inl t0))]
abbrev wo_J7_copyOfRange_39247 (C : Nat → ClassId) (q0 : Nat) (tn0 : Nat) (t0 : Nat → Int32) (rp : Nat) (rn : Nat) (rf : Nat → Int32) : va_W := [(q0, .inl (C 1, tn0, .inl t0)), (rp, .inl (C 1, rn, .inl rf))]
abbrev q_J7_copyOfRange_39247 (D : va_G) (C : Nat → ClassId) (q0 : Nat) (tn0 : Nat) (t0 : Nat → Int32) (Q : Nat → Nat → (Nat → Int32) → Prop) (A : Nat → Prop) : Array Value → State → Outcome → State → Prop := va_Qr (fun (u : Nat × Nat × (Nat → Int32)) => Q u.1 u.2.1 u.2.2) (fun (u : Nat × Nat × (Nat → Int32)) (a : Nat) (t : State) => a = u.1 ∧ va_P D vwCl (wo_J7_copyOfRange_39247 C q0 tn0 t0 u.1 u.2.1 u.2.2) t.heap ∧ va_K D vwCl (tyL C) t ∧ va_D A (wo_J7_copyOfRange_39247 C q0 tn0 t0 u.1 u.2.1 u.2.2)) A
set_option maxHeartbeats 4000000 in
set_option maxRecDepth 100000 in
theorem met_J7_copyOfRange_39247 (l : Launch) (hst : l.stackTraces = false) (D : va_G) (C : Nat → ClassId) (q0 : Nat) (p1 : Int32) (p2 : Int32) (tn0 : Nat) (t0 : Nat → Int32) (mc : Nat) (ms : Nat) (sz : Nat) (Q : Nat → Nat → (Nat → Int32) → Prop) (hwp : wp_J7_copyOfRange_39247 p1 p2 tn0 t0 mc ms Q) : Met l yJ7_copyOfRange_39247 ws_J7_copyOfRange_39247 (rm_J7_copyOfRange_39247 mc ms) (va_Pc [.ref q0, .int p1, .int p2] (fun U => U.heap.size = sz ∧ va_P D vwCl (w_J7_copyOfRange_39247 C q0 tn0 t0) U.heap ∧ va_K D vwCl (tyL C) U ∧ va_D (fun _ => True) (w_J7_copyOfRange_39247 C q0 tn0 t0) ∧ TX (va_A (w_J7_copyOfRange_39247 C q0 tn0 t0) sz) U U.heap)) (q_J7_copyOfRange_39247 D C q0 tn0 t0 Q (va_A (w_J7_copyOfRange_39247 C q0 tn0 t0) sz)) mc ms (va_A (w_J7_copyOfRange_39247 C q0 tn0 t0) sz) := by
  refine Met.ofW (cc := cJ7_copyOfRange_39247) (maxL := 3) (ret := (some (.array .byte))) (by decide) rfl ?_
  intro p e s m args below meth c s₁ B hml hv
  obtain ⟨rfl, hsz, hP, hK, hD0, hT⟩ := hv
  have hx := B.exec
  have hb := B.bytes
  have hr := B.returns
  have hts : ∀ w ∈ WALL, w.before _ s = true := fun w h => atoms_spec (ws := ws_J7_copyOfRange_39247) B.pre w (List.mem_cons_of_mem _ h)
  have hown : s.vm.findClass RJ7 = some m.cls := findClass_of_methodNamed B.named
  have hlocks := B.notSynchronized
  subst hsz
  have hD := hD0.self (sz := s.heap.size)
  generalize hAe : va_A (w_J7_copyOfRange_39247 C q0 tn0 t0) s.heap.size = A at hD ⊢ hT
  have hA : ∀ q : Nat, s.heap.size ≤ q → A q := fun q h => by rw [← hAe]; exact Or.inr h
  have hS : va_S A s.heap s.heap [] := va_S.rf
  have hl := lv_entry ([.ref q0, .int p1, .int p2]) (n := 3) (Nat.le_of_ble_eq_true rfl)
  rw [lg_entry_eq]
  generalize (lg_sl ([.ref q0, .int p1, .int p2]) ++ List.replicate (3 - (lg_sl ([.ref q0, .int p1, .int p2])).length) Slot.unset).toArray = ls at hl ⊢
  have hl : lv_has ls 3 [(0, .ref q0), (1, .int p1), (2, .int p2)] := hl
  unfold wp_J7_copyOfRange_39247 at hwp
  obtain ⟨H, hH⟩ : ∃ H, H = s.heap := ⟨_, rfl⟩
  obtain ⟨locs, hlo⟩ : ∃ z : List Loc, z = [] := ⟨_, rfl⟩
  have hP : va_P D vwCl [(q0, .inl (C 1, tn0, .inl t0))] H := by rw [hH]; exact hP
  have hD : va_D A [(q0, .inl (C 1, tn0, .inl t0))] := hD
  have hS : va_S A s.heap H locs := by rw [hH, hlo]; exact hS
  suffices K : W p l e (headSpec ws_J7_copyOfRange_39247 (rm_J7_copyOfRange_39247 mc ms)).room s m ([.ref q0, .int p1, .int p2] : List Value).toArray below meth c H locs 0 0 (MQ below (q_J7_copyOfRange_39247 D C q0 tn0 t0 Q A) ([.ref q0, .int p1, .int p2] : List Value).toArray s mc ms A) (F0 m 0 ls []) from by rw [hH, hlo] at K; exact K
  refine lv_iload_n hx hb dJ7_copyOfRange_39247_0 rfl (lv_at hl 1 rfl) ?_
  refine lv_if_ne (tgt := 10) hx hb dJ7_copyOfRange_39247_1 (by decide) (fun c1 => ?_) (fun c1 => ?_)
  · have hwp := hwp.1 c1
    refine lv_aload_n hx hb dJ7_copyOfRange_39247_10 rfl (lv_at hl 0 rfl) ?_
    refine lv_iload_n hx hb dJ7_copyOfRange_39247_11 rfl (lv_at hl 1 rfl) ?_
    refine lv_iload_n hx hb dJ7_copyOfRange_39247_12 rfl (lv_at hl 2 rfl) ?_
    have hPc := hP.sub (ws' := [(q0, .inl (C 1, tn0, .inl t0))]) [0] rfl
    have hDc := hD.sub (ws' := [(q0, .inl (C 1, tn0, .inl t0))]) [0] (by decide) rfl
    have hFc := va_free (wc := [(q0, .inl (C 1, tn0, .inl t0))]) hD hS hA [0] rfl
    obtain ⟨mb13, sb13, hbk, hwp⟩ := hwp
    refine va_callr (va_runS (As := [.ref q0, .int p1, .int p2]) (rest := []) ⟨hx, hb, hml, hown, hts⟩ (met_J7_copyOfRangeByte_39247 l hst D C q0 p1 p2 tn0 t0 mb13 sb13 H.size _ hwp) (va_cwS 3 hts gc_J7_339 rfl rfl rfl (by decide +kernel) ⟨Nat.le_of_ble_eq_true rfl, Nat.le_of_ble_eq_true rfl⟩) ⟨fun a U g mk q => by obtain ⟨q0, q1, qP, qK, qD, qT⟩ := q; exact ⟨q0, q1, qP, va_K.moved (u := U) (U := U.calling g mk a) (Vm.Alike.refl U.vm) qK, qD, qT.mv (U := U.calling g mk a) (State.WarmedH.refl U)⟩, fun U hU hW => ⟨rfl, by rw [hU], by rw [hU]; exact hPc, va_K.moved hW.alike hK, hDc.weaken (fun _ _ _ _ => trivial), hT.call hS hFc hU hW⟩⟩ rfl rfl hl.1 rfl (lv_room (Nat.le_of_ble_eq_true rfl)) dJ7_copyOfRange_39247_13 ⟨hbk.1, hbk.2⟩) hS (fun q _ h => hFc q h) hFc (fun u ra t H1 locs ht hvm hwp hB hz1 hk1 hS => ?_)
    obtain ⟨u13_1, u13_2, u13_3⟩ := u
    obtain ⟨hra, hP1, -, hD1⟩ := hB
    have hra := hra.symm
    subst hra
    rw [ht] at hP1
    obtain ⟨hP, hD⟩ := va_join (wr := []) (w1 := [(q0, .inl (C 1, tn0, .inl t0)), (u13_1, .inl (C 1, u13_2, .inl u13_3))]) hP hD [0] [] rfl rfl (by decide) (by decide) hk1 hFc hP1 hD1
    generalize H1 = H at hP hS ⊢
    have hP : va_P D vwCl [(q0, .inl (C 1, tn0, .inl t0)), (u13_1, .inl (C 1, u13_2, .inl u13_3))] H := hP
    have hD : va_D A [(q0, .inl (C 1, tn0, .inl t0)), (u13_1, .inl (C 1, u13_2, .inl u13_3))] := hD
    obtain ⟨hbk, hwp⟩ := hwp
    have hP9 := hP.sub (ws' := [(q0, .inl (C 1, tn0, .inl t0)), (u13_1, .inl (C 1, u13_2, .inl u13_3))]) [0, 1] rfl
    have hD9 := hD.sub (ws' := [(q0, .inl (C 1, tn0, .inl t0)), (u13_1, .inl (C 1, u13_2, .inl u13_3))]) [0, 1] (by decide) rfl
    refine W.widen (k := mc) (n := ms) hbk.1 hbk.2 ?_
    exact W.aret (v := .ref u13_1) (rt := (.array .byte)) hx hb hr (Or.inr ⟨_, rfl⟩) (Or.inr ⟨_, rfl⟩) (fun t ht hW => ⟨⟨(u13_1, u13_2, u13_3), u13_1, rfl, hwp, rfl, by rw [ht]; exact hP9, va_K.moved hW.alike hK, hD9⟩, hS.F ht⟩) hS.2.2 dJ7_copyOfRange_39247_16
  · have hwp := hwp.2 c1
    refine lv_iload_n hx hb dJ7_copyOfRange_39247_4 rfl (lv_at hl 2 rfl) ?_
    refine lv_aload_n hx hb dJ7_copyOfRange_39247_5 rfl (lv_at hl 0 rfl) ?_
    refine va_alen (D := D) hx hb hK hP 0 1 rfl rfl (v := Int32.ofNat tn0) rfl dJ7_copyOfRange_39247_6 ?_
    refine lv_icmp_eq (tgt := 17) hx hb dJ7_copyOfRange_39247_7 (by decide) (fun c7 => ?_) (fun c7 => ?_)
    · have hwp := hwp.1 c7
      refine lv_aload_n hx hb dJ7_copyOfRange_39247_17 rfl (lv_at hl 0 rfl) ?_
      obtain ⟨hbk, hft, hwp⟩ := hwp
      refine va_clone (D := D) (own := RJ7) (ad := "[B") (index := 310) hx hb (hml.trans hl.1.symm) hown (hts (.methodLink RJ7 310 ⟨"[B", "clone", "()Ljava/lang/Object;"⟩) wx_637_0) (hts (.sameMethod "[B" "java/lang/Object" "clone" "()Ljava/lang/Object;") wd_638) (hts (.native ⟨"java/lang/Object", "clone", "()Ljava/lang/Object;"⟩) wx_639_0) (hts (.instanceMethod ⟨"java/lang/Object", "clone", "()Ljava/lang/Object;"⟩) wx_640_0) (hts (.selects "[B" ⟨"[B", "clone", "()Ljava/lang/Object;"⟩ ⟨"java/lang/Object", "clone", "()Ljava/lang/Object;"⟩) wx_641_0) hT.2.2.2.2.2.2.2.2.2.2.2 hK hP hD hS hA 0 1 rfl rfl (hK.2 1 _ rfl).2 (bd_fit hft) (Nat.le_of_ble_eq_true rfl) (Nat.le_of_ble_eq_true rfl) hbk.1 hbk.2 dJ7_copyOfRange_39247_18 (fun a18 H hK1 hP hD hS => ?_)
      clear hK1
      have hwp := hwp a18
      have hP : va_P D vwCl [(q0, .inl (C 1, tn0, .inl t0)), (a18, .inl (C 1, tn0, .inl t0))] H := hP
      have hD : va_D A [(q0, .inl (C 1, tn0, .inl t0)), (a18, .inl (C 1, tn0, .inl t0))] := hD
      refine va_castA (D := D) (nm := "[B") hx hb hown (hts (.classLink RJ7 311 "[B") wd_643) hP 1 rfl (hK.2 1 _ rfl).2 dJ7_copyOfRange_39247_21 ?_
      obtain ⟨hbk, hwp⟩ := hwp
      have hP9 := hP.sub (ws' := [(q0, .inl (C 1, tn0, .inl t0)), (a18, .inl (C 1, tn0, .inl t0))]) [0, 1] rfl
      have hD9 := hD.sub (ws' := [(q0, .inl (C 1, tn0, .inl t0)), (a18, .inl (C 1, tn0, .inl t0))]) [0, 1] (by decide) rfl
      refine W.widen (k := mc) (n := ms) hbk.1 hbk.2 ?_
      exact W.aret (v := .ref a18) (rt := (.array .byte)) hx hb hr (Or.inr ⟨_, rfl⟩) (Or.inr ⟨_, rfl⟩) (fun t ht hW => ⟨⟨(a18, tn0, t0), a18, rfl, hwp, rfl, by rw [ht]; exact hP9, va_K.moved hW.alike hK, hD9⟩, hS.F ht⟩) hS.2.2 dJ7_copyOfRange_39247_24
    · have hwp := hwp.2 c7
      refine lv_aload_n hx hb dJ7_copyOfRange_39247_10 rfl (lv_at hl 0 rfl) ?_
      refine lv_iload_n hx hb dJ7_copyOfRange_39247_11 rfl (lv_at hl 1 rfl) ?_
      refine lv_iload_n hx hb dJ7_copyOfRange_39247_12 rfl (lv_at hl 2 rfl) ?_
      have hPc := hP.sub (ws' := [(q0, .inl (C 1, tn0, .inl t0))]) [0] rfl
      have hDc := hD.sub (ws' := [(q0, .inl (C 1, tn0, .inl t0))]) [0] (by decide) rfl
      have hFc := va_free (wc := [(q0, .inl (C 1, tn0, .inl t0))]) hD hS hA [0] rfl
      obtain ⟨mb13, sb13, hbk, hwp⟩ := hwp
      refine va_callr (va_runS (As := [.ref q0, .int p1, .int p2]) (rest := []) ⟨hx, hb, hml, hown, hts⟩ (met_J7_copyOfRangeByte_39247 l hst D C q0 p1 p2 tn0 t0 mb13 sb13 H.size _ hwp) (va_cwS 3 hts gc_J7_339 rfl rfl rfl (by decide +kernel) ⟨Nat.le_of_ble_eq_true rfl, Nat.le_of_ble_eq_true rfl⟩) ⟨fun a U g mk q => by obtain ⟨q0, q1, qP, qK, qD, qT⟩ := q; exact ⟨q0, q1, qP, va_K.moved (u := U) (U := U.calling g mk a) (Vm.Alike.refl U.vm) qK, qD, qT.mv (U := U.calling g mk a) (State.WarmedH.refl U)⟩, fun U hU hW => ⟨rfl, by rw [hU], by rw [hU]; exact hPc, va_K.moved hW.alike hK, hDc.weaken (fun _ _ _ _ => trivial), hT.call hS hFc hU hW⟩⟩ rfl rfl hl.1 rfl (lv_room (Nat.le_of_ble_eq_true rfl)) dJ7_copyOfRange_39247_13 ⟨hbk.1, hbk.2⟩) hS (fun q _ h => hFc q h) hFc (fun u ra t H1 locs ht hvm hwp hB hz1 hk1 hS => ?_)
      obtain ⟨u13_4, u13_5, u13_6⟩ := u
      obtain ⟨hra, hP1, -, hD1⟩ := hB
      have hra := hra.symm
      subst hra
      rw [ht] at hP1
      obtain ⟨hP, hD⟩ := va_join (wr := []) (w1 := [(q0, .inl (C 1, tn0, .inl t0)), (u13_4, .inl (C 1, u13_5, .inl u13_6))]) hP hD [0] [] rfl rfl (by decide) (by decide) hk1 hFc hP1 hD1
      generalize H1 = H at hP hS ⊢
      have hP : va_P D vwCl [(q0, .inl (C 1, tn0, .inl t0)), (u13_4, .inl (C 1, u13_5, .inl u13_6))] H := hP
      have hD : va_D A [(q0, .inl (C 1, tn0, .inl t0)), (u13_4, .inl (C 1, u13_5, .inl u13_6))] := hD
      obtain ⟨hbk, hwp⟩ := hwp
      have hP9 := hP.sub (ws' := [(q0, .inl (C 1, tn0, .inl t0)), (u13_4, .inl (C 1, u13_5, .inl u13_6))]) [0, 1] rfl
      have hD9 := hD.sub (ws' := [(q0, .inl (C 1, tn0, .inl t0)), (u13_4, .inl (C 1, u13_5, .inl u13_6))]) [0, 1] (by decide) rfl
      refine W.widen (k := mc) (n := ms) hbk.1 hbk.2 ?_
      exact W.aret (v := .ref u13_4) (rt := (.array .byte)) hx hb hr (Or.inr ⟨_, rfl⟩) (Or.inr ⟨_, rfl⟩) (fun t ht hW => ⟨⟨(u13_4, u13_5, u13_6), u13_4, rfl, hwp, rfl, by rw [ht]; exact hP9, va_K.moved hW.alike hK, hD9⟩, hS.F ht⟩) hS.2.2 dJ7_copyOfRange_39247_16

abbrev ws_J0_init_db425 : List Cond := .code yJ0_init_db425 cJ0_init_db425 5 none :: WALL
theorem gc_J0_552 : GoodIn WALL (va_wsU RJ0 552 RJ4 "java/lang/AbstractStringBuilder" yJ5_getValue_6d5f1 yJ5_getValue_6d5f1 ws_J5_getValue_6d5f1) := gc_u wx_774_0 wd_776 wx_777_0 wd_775 wd_46 wx_778_0
theorem gc_J0_549 : GoodIn WALL (va_wsO RJ0 549 RJ4 "java/lang/AbstractStringBuilder" ⟨"java/lang/AbstractStringBuilder", "length", "()I"⟩ yJ4_length_8abf5 ws_J4_length_8abf5) := gc_o wx_779_0 wd_781 wx_780_0 wx_782_0 wd_783 wd_47 wd_784
theorem gc_J0_1047 : GoodIn WALL (va_wsU RJ0 1047 RJ4 "java/lang/AbstractStringBuilder" yJ5_isLatin1_aae02 yJ5_isLatin1_aae02 ws_J5_isLatin1_aae02) := gc_u wx_787_0 wd_650 wx_651_0 wd_649 wd_46 wd_652
theorem gc_J0_54 : GoodIn WALL (va_wsS RJ0 54 yJ7_copyOfRange_39247 ws_J7_copyOfRange_39247) := gc_s wd_788 wd_789 wd_52 wx_790_0
abbrev rm_J0_init_db425 (mc ms : Nat) : Room := { frames := 3, cells := mc, slots := ms, locals := 110 }
abbrev w_J0_init_db425 (C : Nat → ClassId) (q : Nat) (q1 : Nat) (tp1 : Nat) (tn1 : Nat) (tf1 : Nat → Int32) (tc1 : Int32) (tl1 : Int32) : va_W := [(q, .inr (11, [.null, .int 0, .int 0, .int 0])), (q1, .inr (12, [.ref tp1, .int 0, .int tl1, .int tc1])), (tp1, .inl (C 1, tn1, .inl tf1))]
abbrev wo_J0_init_db425 (C : Nat → ClassId) (q : Nat) (q1 : Nat) (tp1 : Nat) (tn1 : Nat) (tf1 : Nat → Int32) (tc1 : Int32) (tl1 : Int32) (rp : Nat) (rn : Nat) (rf : Nat → Int32) : va_W := [(q, .inr (11, [.ref rp, .int 0, .int 0, .int 0])), (q1, .inr (12, [.ref tp1, .int 0, .int tl1, .int tc1])), (tp1, .inl (C 1, tn1, .inl tf1)), (rp, .inl (C 1, rn, .inl rf))]
abbrev q_J0_init_db425 (D : va_G) (C : Nat → ClassId) (q : Nat) (q1 : Nat) (tp1 : Nat) (tn1 : Nat) (tf1 : Nat → Int32) (tc1 : Int32) (tl1 : Int32) (Q : Nat → Nat → (Nat → Int32) → Prop) (A : Nat → Prop) : Array Value → State → Outcome → State → Prop := va_Qv (fun (u : Nat × Nat × (Nat → Int32)) => Q u.1 u.2.1 u.2.2) (fun (u : Nat × Nat × (Nat → Int32)) (t : State) => va_P D vwCl (wo_J0_init_db425 C q q1 tp1 tn1 tf1 tc1 tl1 u.1 u.2.1 u.2.2) t.heap ∧ va_K D vwCl (tyL C) t ∧ va_D A (wo_J0_init_db425 C q q1 tp1 tn1 tf1 tc1 tl1 u.1 u.2.1 u.2.2)) A
set_option maxHeartbeats 4000000 in
set_option maxRecDepth 100000 in
theorem met_J0_init_db425 (l : Launch) (hst : l.stackTraces = false) (D : va_G) (C : Nat → ClassId) (q : Nat) (q1 : Nat) (tp1 : Nat) (tn1 : Nat) (tf1 : Nat → Int32) (tc1 : Int32) (tl1 : Int32) (mc : Nat) (ms : Nat) (sz : Nat) (Q : Nat → Nat → (Nat → Int32) → Prop) (hwp : wp_J0_init_db425 tp1 tn1 tf1 tc1 tl1 mc ms Q) : Met l yJ0_init_db425 ws_J0_init_db425 (rm_J0_init_db425 mc ms) (va_Pc [.ref q, .ref q1, .null] (fun U => U.heap.size = sz ∧ va_P D vwCl (w_J0_init_db425 C q q1 tp1 tn1 tf1 tc1 tl1) U.heap ∧ va_K D vwCl (tyL C) U ∧ va_D (fun _ => True) (w_J0_init_db425 C q q1 tp1 tn1 tf1 tc1 tl1) ∧ TX (va_A (w_J0_init_db425 C q q1 tp1 tn1 tf1 tc1 tl1) sz) U U.heap)) (q_J0_init_db425 D C q q1 tp1 tn1 tf1 tc1 tl1 Q (va_A (w_J0_init_db425 C q q1 tp1 tn1 tf1 tc1 tl1) sz)) mc ms (va_A (w_J0_init_db425 C q q1 tp1 tn1 tf1 tc1 tl1) sz) := by
  refine Met.ofW (cc := cJ0_init_db425) (maxL := 5) (ret := none) (by decide) rfl ?_
  intro p e s m args below meth c s₁ B hml hv
  obtain ⟨rfl, hsz, hP, hK, hD0, hT⟩ := hv
  have hx := B.exec
  have hb := B.bytes
  have hr := B.returns
  have hts : ∀ w ∈ WALL, w.before _ s = true := fun w h => atoms_spec (ws := ws_J0_init_db425) B.pre w (List.mem_cons_of_mem _ h)
  have hown : s.vm.findClass RJ0 = some m.cls := findClass_of_methodNamed B.named
  have hlocks := B.notSynchronized
  have hin := (name_of_methodNamed B.named B.method).1
  subst hsz
  have hD := hD0.self (sz := s.heap.size)
  generalize hAe : va_A (w_J0_init_db425 C q q1 tp1 tn1 tf1 tc1 tl1) s.heap.size = A at hD ⊢ hT
  have hA : ∀ q : Nat, s.heap.size ≤ q → A q := fun q h => by rw [← hAe]; exact Or.inr h
  have hS : va_S A s.heap s.heap [] := va_S.rf
  have hl := lv_entry ([.ref q, .ref q1, .null]) (n := 5) (Nat.le_of_ble_eq_true rfl)
  rw [lg_entry_eq]
  generalize (lg_sl ([.ref q, .ref q1, .null]) ++ List.replicate (5 - (lg_sl ([.ref q, .ref q1, .null])).length) Slot.unset).toArray = ls at hl ⊢
  have hl : lv_has ls 5 [(0, .ref q), (1, .ref q1), (2, .null)] := hl
  unfold wp_J0_init_db425 at hwp
  obtain ⟨H, hH⟩ : ∃ H, H = s.heap := ⟨_, rfl⟩
  obtain ⟨locs, hlo⟩ : ∃ z : List Loc, z = [] := ⟨_, rfl⟩
  have hP : va_P D vwCl [(q, .inr (11, [.null, .int 0, .int 0, .int 0])), (q1, .inr (12, [.ref tp1, .int 0, .int tl1, .int tc1])), (tp1, .inl (C 1, tn1, .inl tf1))] H := by rw [hH]; exact hP
  have hD : va_D A [(q, .inr (11, [.null, .int 0, .int 0, .int 0])), (q1, .inr (12, [.ref tp1, .int 0, .int tl1, .int tc1])), (tp1, .inl (C 1, tn1, .inl tf1))] := hD
  have hS : va_S A s.heap H locs := by rw [hH, hlo]; exact hS
  suffices K : W p l e (headSpec ws_J0_init_db425 (rm_J0_init_db425 mc ms)).room s m ([.ref q, .ref q1, .null] : List Value).toArray below meth c H locs 0 0 (MQ below (q_J0_init_db425 D C q q1 tp1 tn1 tf1 tc1 tl1 Q A) ([.ref q, .ref q1, .null] : List Value).toArray s mc ms A) (F0 m 0 ls []) from by rw [hH, hlo] at K; exact K
  refine lv_aload_n hx hb dJ0_init_db425_0 rfl (lv_at hl 0 rfl) ?_
  refine W.objInit hx hb hown (hts (.methodLink RJ0 1 objectInit) wd_773) (hts (.instanceMethod objectInit) wd_70) (hts (.code objectInit ⟨#[0xb1]⟩ 1 none) wd_71) rfl (by rw [hml]; exact hl.1) rfl dJ0_init_db425_1 (Nat.le_of_ble_eq_true rfl) (Nat.le_of_ble_eq_true rfl) ?_
  show W p l e (headSpec ws_J0_init_db425 (rm_J0_init_db425 mc ms)).room s m ([.ref q, .ref q1, .null] : List Value).toArray below meth c H locs 0 0 (MQ below (q_J0_init_db425 D C q q1 tp1 tn1 tf1 tc1 tl1 Q A) ([.ref q, .ref q1, .null] : List Value).toArray s mc ms A) (F0 m 4 ls [])
  refine lv_aload_n hx hb dJ0_init_db425_4 rfl (lv_at hl 1 rfl) ?_
  have hPc := hP.sub (ws' := [(q1, .inr (12, [.ref tp1, .int 0, .int tl1, .int tc1])), (tp1, .inl (C 1, tn1, .inl tf1))]) [1, 2] rfl
  have hDc := hD.sub (ws' := [(q1, .inr (12, [.ref tp1, .int 0, .int tl1, .int tc1])), (tp1, .inl (C 1, tn1, .inl tf1))]) [1, 2] (by decide) rfl
  have hFc := va_free (wc := [(q1, .inr (12, [.ref tp1, .int 0, .int tl1, .int tc1])), (tp1, .inl (C 1, tn1, .inl tf1))]) hD hS hA [1, 2] rfl
  obtain ⟨hbk, hwp⟩ := hwp
  refine va_callr (va_runU (As := []) (rest := []) ⟨hx, hb, hml, hown, hts⟩ (met_J5_getValue_6d5f1 l hst D C q1 tp1 tn1 tf1 tc1 tl1 H.size _ hwp) (va_cwU 0 hts gc_J0_552 rfl rfl rfl rfl (by decide +kernel) ⟨Nat.le_of_ble_eq_true rfl, Nat.le_of_ble_eq_true rfl⟩) ⟨fun a U g mk q => by obtain ⟨q0, q1, qP, qK, qD, qT⟩ := q; exact ⟨q0, q1, qP, va_K.moved (u := U) (U := U.calling g mk a) (Vm.Alike.refl U.vm) qK, qD, qT.mv (U := U.calling g mk a) (State.WarmedH.refl U)⟩, va_recv hK hPc (ci := 12) (q0 := 0) rfl rfl, fun U hU hW => ⟨rfl, by rw [hU], by rw [hU]; exact hPc, va_K.moved hW.alike hK, hDc.weaken (fun _ _ _ _ => trivial), hT.call hS hFc hU hW⟩⟩ rfl rfl hl.1 rfl (lv_room (Nat.le_of_ble_eq_true rfl)) dJ0_init_db425_5 ⟨hbk.1, hbk.2⟩) hS (fun q _ h => hFc q h) hFc (fun u ra t H1 locs ht hvm hwp hB hz1 hk1 hS => ?_)
  obtain ⟨hra, hP1, -, hD1⟩ := hB
  have hra := hra.symm
  subst hra
  rw [ht] at hP1
  obtain ⟨hP, hD⟩ := va_join (wr := [(q, .inr (11, [.null, .int 0, .int 0, .int 0]))]) (w1 := [(q1, .inr (12, [.ref tp1, .int 0, .int tl1, .int tc1])), (tp1, .inl (C 1, tn1, .inl tf1))]) hP hD [1, 2] [0] rfl rfl (by decide) (by decide) hk1 hFc hP1 hD1
  generalize H1 = H at hP hS ⊢
  have hP : va_P D vwCl [(q, .inr (11, [.null, .int 0, .int 0, .int 0])), (q1, .inr (12, [.ref tp1, .int 0, .int tl1, .int tc1])), (tp1, .inl (C 1, tn1, .inl tf1))] H := hP
  have hD : va_D A [(q, .inr (11, [.null, .int 0, .int 0, .int 0])), (q1, .inr (12, [.ref tp1, .int 0, .int tl1, .int tc1])), (tp1, .inl (C 1, tn1, .inl tf1))] := hD
  refine lv_astore_n (lv' := [(3, .ref tp1), (0, .ref q), (1, .ref q1), (2, .null)]) hx hb dJ0_init_db425_8 rfl hl (by decide) rfl (fun ls hl => ?_)
  refine lv_aload_n hx hb dJ0_init_db425_9 rfl (lv_at hl 2 rfl) ?_
  have hPc := hP.sub (ws' := [(q1, .inr (12, [.ref tp1, .int 0, .int tl1, .int tc1])), (tp1, .inl (C 1, tn1, .inl tf1))]) [1, 2] rfl
  have hDc := hD.sub (ws' := [(q1, .inr (12, [.ref tp1, .int 0, .int tl1, .int tc1])), (tp1, .inl (C 1, tn1, .inl tf1))]) [1, 2] (by decide) rfl
  have hFc := va_free (wc := [(q1, .inr (12, [.ref tp1, .int 0, .int tl1, .int tc1])), (tp1, .inl (C 1, tn1, .inl tf1))]) hD hS hA [1, 2] rfl
  obtain ⟨hbk, hwp⟩ := hwp
  refine va_calli (va_runU (As := []) (rest := []) ⟨hx, hb, hml, hown, hts⟩ (met_J4_length_8abf5 l hst D C q1 tp1 tn1 tf1 tc1 tl1 H.size _ hwp) (va_cwO 0 hts gc_J0_549 rfl rfl rfl wd_786 (by decide +kernel) ⟨Nat.le_of_ble_eq_true rfl, Nat.le_of_ble_eq_true rfl⟩) ⟨fun a U g mk q => by obtain ⟨q0, q1, qP, qK, qD, qT⟩ := q; exact ⟨q0, q1, qP, va_K.moved (u := U) (U := U.calling g mk a) (Vm.Alike.refl U.vm) qK, qD, qT.mv (U := U.calling g mk a) (State.WarmedH.refl U)⟩, va_recv hK hPc (ci := 12) (q0 := 0) rfl rfl, fun U hU hW => ⟨rfl, by rw [hU], by rw [hU]; exact hPc, va_K.moved hW.alike hK, hDc.weaken (fun _ _ _ _ => trivial), hT.call hS hFc hU hW⟩⟩ rfl rfl hl.1 rfl (lv_room (Nat.le_of_ble_eq_true rfl)) dJ0_init_db425_10 ⟨hbk.1, hbk.2⟩) hS (fun q _ h => hFc q h) hFc (fun r10 u t H1 locs ht hvm hwp hB hz1 hk1 hS => ?_)
  obtain ⟨hP1, -, hD1⟩ := hB
  rw [ht] at hP1
  obtain ⟨hP, hD⟩ := va_join (wr := [(q, .inr (11, [.null, .int 0, .int 0, .int 0]))]) (w1 := [(q1, .inr (12, [.ref tp1, .int 0, .int tl1, .int tc1])), (tp1, .inl (C 1, tn1, .inl tf1))]) hP hD [1, 2] [0] rfl rfl (by decide) (by decide) hk1 hFc hP1 hD1
  generalize H1 = H at hP hS ⊢
  have hP : va_P D vwCl [(q, .inr (11, [.null, .int 0, .int 0, .int 0])), (q1, .inr (12, [.ref tp1, .int 0, .int tl1, .int tc1])), (tp1, .inl (C 1, tn1, .inl tf1))] H := hP
  have hD : va_D A [(q, .inr (11, [.null, .int 0, .int 0, .int 0])), (q1, .inr (12, [.ref tp1, .int 0, .int tl1, .int tc1])), (tp1, .inl (C 1, tn1, .inl tf1))] := hD
  refine lv_istore (lv' := [(4, .int r10), (3, .ref tp1), (0, .ref q), (1, .ref q1), (2, .null)]) hx hb dJ0_init_db425_13 hl (by decide) rfl (fun ls hl => ?_)
  refine lv_aload_n hx hb dJ0_init_db425_15 rfl (lv_at hl 3 rfl) ?_
  have hPc := hP.sub (ws' := [(q1, .inr (12, [.ref tp1, .int 0, .int tl1, .int tc1])), (tp1, .inl (C 1, tn1, .inl tf1))]) [1, 2] rfl
  have hDc := hD.sub (ws' := [(q1, .inr (12, [.ref tp1, .int 0, .int tl1, .int tc1])), (tp1, .inl (C 1, tn1, .inl tf1))]) [1, 2] (by decide) rfl
  have hFc := va_free (wc := [(q1, .inr (12, [.ref tp1, .int 0, .int tl1, .int tc1])), (tp1, .inl (C 1, tn1, .inl tf1))]) hD hS hA [1, 2] rfl
  obtain ⟨hbk, hwp⟩ := hwp
  refine va_calli (va_runU (As := []) (rest := []) ⟨hx, hb, hml, hown, hts⟩ (met_J5_isLatin1_aae02 l hst D C q1 tp1 tn1 tf1 tc1 tl1 H.size _ hwp) (va_cwU 0 hts gc_J0_1047 rfl rfl rfl rfl (by decide +kernel) ⟨Nat.le_of_ble_eq_true rfl, Nat.le_of_ble_eq_true rfl⟩) ⟨fun a U g mk q => by obtain ⟨q0, q1, qP, qK, qD, qT⟩ := q; exact ⟨q0, q1, qP, va_K.moved (u := U) (U := U.calling g mk a) (Vm.Alike.refl U.vm) qK, qD, qT.mv (U := U.calling g mk a) (State.WarmedH.refl U)⟩, va_recv hK hPc (ci := 12) (q0 := 0) rfl rfl, fun U hU hW => ⟨rfl, by rw [hU], by rw [hU]; exact hPc, va_K.moved hW.alike hK, hDc.weaken (fun _ _ _ _ => trivial), hT.call hS hFc hU hW⟩⟩ rfl rfl hl.1 rfl (lv_room (Nat.le_of_ble_eq_true rfl)) dJ0_init_db425_16 ⟨hbk.1, hbk.2⟩) hS (fun q _ h => hFc q h) hFc (fun r16 u t H1 locs ht hvm hwp hB hz1 hk1 hS => ?_)
  obtain ⟨hP1, -, hD1⟩ := hB
  rw [ht] at hP1
  obtain ⟨hP, hD⟩ := va_join (wr := [(q, .inr (11, [.null, .int 0, .int 0, .int 0]))]) (w1 := [(q1, .inr (12, [.ref tp1, .int 0, .int tl1, .int tc1])), (tp1, .inl (C 1, tn1, .inl tf1))]) hP hD [1, 2] [0] rfl rfl (by decide) (by decide) hk1 hFc hP1 hD1
  generalize H1 = H at hP hS ⊢
  have hP : va_P D vwCl [(q, .inr (11, [.null, .int 0, .int 0, .int 0])), (q1, .inr (12, [.ref tp1, .int 0, .int tl1, .int tc1])), (tp1, .inl (C 1, tn1, .inl tf1))] H := hP
  have hD : va_D A [(q, .inr (11, [.null, .int 0, .int 0, .int 0])), (q1, .inr (12, [.ref tp1, .int 0, .int tl1, .int tc1])), (tp1, .inl (C 1, tn1, .inl tf1))] := hD
  refine lv_if_eq (tgt := 41) hx hb dJ0_init_db425_19 (by decide) (fun c19 => ?_) (fun c19 => ?_)
  · have hwp := hwp.1 c19
    exact False.elim hwp
  · have hwp := hwp.2 c19
    refine lv_aload_n hx hb dJ0_init_db425_22 rfl (lv_at hl 2 rfl) ?_
    refine lv_iconst (v := 0) hx hb dJ0_init_db425_23 (by decide) ?_
    refine va_putF (D := D) (ci := 11) (v := .int (0 : Int32)) (ty := .byte) (C := RJ0) (T := TJ0) (N := 4) hx hb hts iwJ0 tyJ0 tyJ0_ok nmJ0 hown hK hP hD hS 0 rfl rfl 1 (by decide) (hts (.fieldLink RJ0 15 "java/lang/String" "coder" "B") wd_811) (fun _ h9 => h9) rfl hin rfl (by decide +kernel) rfl rfl (Nat.le_of_ble_eq_true rfl) dJ0_init_db425_24 (fun H locs hP hD hS => ?_)
    have hP : va_P D vwCl [(q, .inr (11, [.null, .int (0 : Int32), .int 0, .int 0])), (q1, .inr (12, [.ref tp1, .int 0, .int tl1, .int tc1])), (tp1, .inl (C 1, tn1, .inl tf1))] H := hP
    have hD : va_D A [(q, .inr (11, [.null, .int (0 : Int32), .int 0, .int 0])), (q1, .inr (12, [.ref tp1, .int 0, .int tl1, .int tc1])), (tp1, .inl (C 1, tn1, .inl tf1))] := hD
    refine lv_aload_n hx hb dJ0_init_db425_27 rfl (lv_at hl 2 rfl) ?_
    refine lv_aload_n hx hb dJ0_init_db425_28 rfl (lv_at hl 1 rfl) ?_
    refine lv_iconst (v := 0) hx hb dJ0_init_db425_29 (by decide) ?_
    refine lv_iload hx hb dJ0_init_db425_30 (lv_at hl 0 rfl) ?_
    have hPc := hP.sub (ws' := [(tp1, .inl (C 1, tn1, .inl tf1))]) [2] rfl
    have hDc := hD.sub (ws' := [(tp1, .inl (C 1, tn1, .inl tf1))]) [2] (by decide) rfl
    have hFc := va_free (wc := [(tp1, .inl (C 1, tn1, .inl tf1))]) hD hS hA [2] rfl
    obtain ⟨mb32, sb32, hbk, hwp⟩ := hwp
    refine va_callr (va_runS (As := [.ref tp1, .int (0 : Int32), .int r10]) (rest := [.ref q]) ⟨hx, hb, hml, hown, hts⟩ (met_J7_copyOfRange_39247 l hst D C tp1 (0 : Int32) r10 tn1 tf1 mb32 sb32 H.size _ hwp) (va_cwS 3 hts gc_J0_54 rfl rfl rfl (by decide +kernel) ⟨Nat.le_of_ble_eq_true rfl, Nat.le_of_ble_eq_true rfl⟩) ⟨fun a U g mk q => by obtain ⟨q0, q1, qP, qK, qD, qT⟩ := q; exact ⟨q0, q1, qP, va_K.moved (u := U) (U := U.calling g mk a) (Vm.Alike.refl U.vm) qK, qD, qT.mv (U := U.calling g mk a) (State.WarmedH.refl U)⟩, fun U hU hW => ⟨rfl, by rw [hU], by rw [hU]; exact hPc, va_K.moved hW.alike hK, hDc.weaken (fun _ _ _ _ => trivial), hT.call hS hFc hU hW⟩⟩ rfl rfl hl.1 rfl (lv_room (Nat.le_of_ble_eq_true rfl)) dJ0_init_db425_32 ⟨hbk.1, hbk.2⟩) hS (fun q _ h => hFc q h) hFc (fun u ra t H1 locs ht hvm hwp hB hz1 hk1 hS => ?_)
    obtain ⟨u32_1, u32_2, u32_3⟩ := u
    obtain ⟨hra, hP1, -, hD1⟩ := hB
    have hra := hra.symm
    subst hra
    rw [ht] at hP1
    obtain ⟨hP, hD⟩ := va_join (wr := [(q, .inr (11, [.null, .int (0 : Int32), .int 0, .int 0])), (q1, .inr (12, [.ref tp1, .int 0, .int tl1, .int tc1]))]) (w1 := [(tp1, .inl (C 1, tn1, .inl tf1)), (u32_1, .inl (C 1, u32_2, .inl u32_3))]) hP hD [2] [0, 1] rfl rfl (by decide) (by decide) hk1 hFc hP1 hD1
    generalize H1 = H at hP hS ⊢
    have hP : va_P D vwCl [(q, .inr (11, [.null, .int (0 : Int32), .int 0, .int 0])), (q1, .inr (12, [.ref tp1, .int 0, .int tl1, .int tc1])), (tp1, .inl (C 1, tn1, .inl tf1)), (u32_1, .inl (C 1, u32_2, .inl u32_3))] H := hP
    have hD : va_D A [(q, .inr (11, [.null, .int (0 : Int32), .int 0, .int 0])), (q1, .inr (12, [.ref tp1, .int 0, .int tl1, .int tc1])), (tp1, .inl (C 1, tn1, .inl tf1)), (u32_1, .inl (C 1, u32_2, .inl u32_3))] := hD
    refine va_putF (D := D) (ci := 11) (v := .ref u32_1) (ty := (.array .byte)) (C := RJ0) (T := TJ0) (N := 4) hx hb hts iwJ0 tyJ0 tyJ0_ok nmJ0 hown hK hP hD hS 0 rfl rfl 0 (by decide) (hts (.fieldLink RJ0 9 "java/lang/String" "value" "[B") wd_810) (fun _ h9 => h9) rfl hin rfl (by decide +kernel) rfl rfl (Nat.le_of_ble_eq_true rfl) dJ0_init_db425_35 (fun H locs hP hD hS => ?_)
    have hP : va_P D vwCl [(q, .inr (11, [.ref u32_1, .int (0 : Int32), .int 0, .int 0])), (q1, .inr (12, [.ref tp1, .int 0, .int tl1, .int tc1])), (tp1, .inl (C 1, tn1, .inl tf1)), (u32_1, .inl (C 1, u32_2, .inl u32_3))] H := hP
    have hD : va_D A [(q, .inr (11, [.ref u32_1, .int (0 : Int32), .int 0, .int 0])), (q1, .inr (12, [.ref tp1, .int 0, .int tl1, .int tc1])), (tp1, .inl (C 1, tn1, .inl tf1)), (u32_1, .inl (C 1, u32_2, .inl u32_3))] := hD
    refine lv_goto (tgt := 97) hx hb dJ0_init_db425_38 (by decide) ?_
    obtain ⟨hbk, hwp⟩ := hwp
    have hP9 := hP.sub (ws' := [(q, .inr (11, [.ref u32_1, .int (0 : Int32), .int 0, .int 0])), (q1, .inr (12, [.ref tp1, .int 0, .int tl1, .int tc1])), (tp1, .inl (C 1, tn1, .inl tf1)), (u32_1, .inl (C 1, u32_2, .inl u32_3))]) [0, 1, 2, 3] rfl
    have hD9 := hD.sub (ws' := [(q, .inr (11, [.ref u32_1, .int (0 : Int32), .int 0, .int 0])), (q1, .inr (12, [.ref tp1, .int 0, .int tl1, .int tc1])), (tp1, .inl (C 1, tn1, .inl tf1)), (u32_1, .inl (C 1, u32_2, .inl u32_3))]) [0, 1, 2, 3] (by decide) rfl
    refine W.widen (k := mc) (n := ms) hbk.1 hbk.2 ?_
    exact W.vret hx hb hr (fun t ht hW => ⟨⟨(u32_1, u32_2, u32_3), rfl, hwp, by rw [ht]; exact hP9, va_K.moved hW.alike hK, hD9⟩, hS.F ht⟩) hS.2.2 dJ0_init_db425_97

abbrev ws_J0_init_81219 : List Cond := .code yJ0_init_81219 cJ0_init_81219 2 none :: WALL
theorem gc_J0_init_db425 : GoodIn WALL ws_J0_init_db425 := gc_0 wd_772
abbrev rm_J0_init_81219 (mc ms : Nat) : Room := { frames := 4, cells := mc, slots := ms, locals := 134 }
abbrev w_J0_init_81219 (C : Nat → ClassId) (q : Nat) (q1 : Nat) (tp1 : Nat) (tn1 : Nat) (tf1 : Nat → Int32) (tc1 : Int32) (tl1 : Int32) : va_W := [(q, .inr (11, [.null, .int 0, .int 0, .int 0])), (q1, .inr (12, [.ref tp1, .int 0, .int tl1, .int tc1])), (tp1, .inl (C 1, tn1, .inl tf1))]
abbrev wo_J0_init_81219 (C : Nat → ClassId) (q : Nat) (q1 : Nat) (tp1 : Nat) (tn1 : Nat) (tf1 : Nat → Int32) (tc1 : Int32) (tl1 : Int32) (rp : Nat) (rn : Nat) (rf : Nat → Int32) : va_W := [(q, .inr (11, [.ref rp, .int 0, .int 0, .int 0])), (q1, .inr (12, [.ref tp1, .int 0, .int tl1, .int tc1])), (tp1, .inl (C 1, tn1, .inl tf1)), (rp, .inl (C 1, rn, .inl rf))]
abbrev q_J0_init_81219 (D : va_G) (C : Nat → ClassId) (q : Nat) (q1 : Nat) (tp1 : Nat) (tn1 : Nat) (tf1 : Nat → Int32) (tc1 : Int32) (tl1 : Int32) (Q : Nat → Nat → (Nat → Int32) → Prop) (A : Nat → Prop) : Array Value → State → Outcome → State → Prop := va_Qv (fun (u : Nat × Nat × (Nat → Int32)) => Q u.1 u.2.1 u.2.2) (fun (u : Nat × Nat × (Nat → Int32)) (t : State) => va_P D vwCl (wo_J0_init_81219 C q q1 tp1 tn1 tf1 tc1 tl1 u.1 u.2.1 u.2.2) t.heap ∧ va_K D vwCl (tyL C) t ∧ va_D A (wo_J0_init_81219 C q q1 tp1 tn1 tf1 tc1 tl1 u.1 u.2.1 u.2.2)) A
set_option maxHeartbeats 4000000 in
set_option maxRecDepth 100000 in
theorem met_J0_init_81219 (l : Launch) (hst : l.stackTraces = false) (D : va_G) (C : Nat → ClassId) (q : Nat) (q1 : Nat) (tp1 : Nat) (tn1 : Nat) (tf1 : Nat → Int32) (tc1 : Int32) (tl1 : Int32) (mc : Nat) (ms : Nat) (sz : Nat) (Q : Nat → Nat → (Nat → Int32) → Prop) (hwp : wp_J0_init_81219 tp1 tn1 tf1 tc1 tl1 mc ms Q) : Met l yJ0_init_81219 ws_J0_init_81219 (rm_J0_init_81219 mc ms) (va_Pc [.ref q, .ref q1] (fun U => U.heap.size = sz ∧ va_P D vwCl (w_J0_init_81219 C q q1 tp1 tn1 tf1 tc1 tl1) U.heap ∧ va_K D vwCl (tyL C) U ∧ va_D (fun _ => True) (w_J0_init_81219 C q q1 tp1 tn1 tf1 tc1 tl1) ∧ TX (va_A (w_J0_init_81219 C q q1 tp1 tn1 tf1 tc1 tl1) sz) U U.heap)) (q_J0_init_81219 D C q q1 tp1 tn1 tf1 tc1 tl1 Q (va_A (w_J0_init_81219 C q q1 tp1 tn1 tf1 tc1 tl1) sz)) mc ms (va_A (w_J0_init_81219 C q q1 tp1 tn1 tf1 tc1 tl1) sz) := by
  refine Met.ofW (cc := cJ0_init_81219) (maxL := 2) (ret := none) (by decide) rfl ?_
  intro p e s m args below meth c s₁ B hml hv
  obtain ⟨rfl, hsz, hP, hK, hD0, hT⟩ := hv
  have hx := B.exec
  have hb := B.bytes
  have hr := B.returns
  have hts : ∀ w ∈ WALL, w.before _ s = true := fun w h => atoms_spec (ws := ws_J0_init_81219) B.pre w (List.mem_cons_of_mem _ h)
  have hown : s.vm.findClass RJ0 = some m.cls := findClass_of_methodNamed B.named
  have hlocks := B.notSynchronized
  have hin := (name_of_methodNamed B.named B.method).1
  subst hsz
  have hD := hD0.self (sz := s.heap.size)
  generalize hAe : va_A (w_J0_init_81219 C q q1 tp1 tn1 tf1 tc1 tl1) s.heap.size = A at hD ⊢ hT
  have hA : ∀ q : Nat, s.heap.size ≤ q → A q := fun q h => by rw [← hAe]; exact Or.inr h
  have hS : va_S A s.heap s.heap [] := va_S.rf
  have hl := lv_entry ([.ref q, .ref q1]) (n := 2) (Nat.le_of_ble_eq_true rfl)
  rw [lg_entry_eq]
  generalize (lg_sl ([.ref q, .ref q1]) ++ List.replicate (2 - (lg_sl ([.ref q, .ref q1])).length) Slot.unset).toArray = ls at hl ⊢
  have hl : lv_has ls 2 [(0, .ref q), (1, .ref q1)] := hl
  unfold wp_J0_init_81219 at hwp
  obtain ⟨H, hH⟩ : ∃ H, H = s.heap := ⟨_, rfl⟩
  obtain ⟨locs, hlo⟩ : ∃ z : List Loc, z = [] := ⟨_, rfl⟩
  have hP : va_P D vwCl [(q, .inr (11, [.null, .int 0, .int 0, .int 0])), (q1, .inr (12, [.ref tp1, .int 0, .int tl1, .int tc1])), (tp1, .inl (C 1, tn1, .inl tf1))] H := by rw [hH]; exact hP
  have hD : va_D A [(q, .inr (11, [.null, .int 0, .int 0, .int 0])), (q1, .inr (12, [.ref tp1, .int 0, .int tl1, .int tc1])), (tp1, .inl (C 1, tn1, .inl tf1))] := hD
  have hS : va_S A s.heap H locs := by rw [hH, hlo]; exact hS
  suffices K : W p l e (headSpec ws_J0_init_81219 (rm_J0_init_81219 mc ms)).room s m ([.ref q, .ref q1] : List Value).toArray below meth c H locs 0 0 (MQ below (q_J0_init_81219 D C q q1 tp1 tn1 tf1 tc1 tl1 Q A) ([.ref q, .ref q1] : List Value).toArray s mc ms A) (F0 m 0 ls []) from by rw [hH, hlo] at K; exact K
  refine lv_aload_n hx hb dJ0_init_81219_0 rfl (lv_at hl 0 rfl) ?_
  refine lv_aload_n hx hb dJ0_init_81219_1 rfl (lv_at hl 1 rfl) ?_
  refine lv_null hx hb dJ0_init_81219_2 ?_
  have hPc := hP.sub (ws' := [(q, .inr (11, [.null, .int 0, .int 0, .int 0])), (q1, .inr (12, [.ref tp1, .int 0, .int tl1, .int tc1])), (tp1, .inl (C 1, tn1, .inl tf1))]) [0, 1, 2] rfl
  have hDc := hD.sub (ws' := [(q, .inr (11, [.null, .int 0, .int 0, .int 0])), (q1, .inr (12, [.ref tp1, .int 0, .int tl1, .int tc1])), (tp1, .inl (C 1, tn1, .inl tf1))]) [0, 1, 2] (by decide) rfl
  have hFc := va_free (wc := [(q, .inr (11, [.null, .int 0, .int 0, .int 0])), (q1, .inr (12, [.ref tp1, .int 0, .int tl1, .int tc1])), (tp1, .inl (C 1, tn1, .inl tf1))]) hD hS hA [0, 1, 2] rfl
  obtain ⟨mb3, sb3, hbk, hwp⟩ := hwp
  refine va_callv (va_runI (As := [.ref q1, .null]) (rest := []) ⟨hx, hb, hml, hown, hts⟩ (met_J0_init_db425 l hst D C q q1 tp1 tn1 tf1 tc1 tl1 mb3 sb3 H.size _ hwp) (cwI 2 hts gc_J0_init_db425 rfl rfl rfl (hts (.initialized RJ0) wd_48) (hts (.methodLink RJ0 489 yJ0_init_db425) wd_770) (hts (.instanceMethod yJ0_init_db425) wd_771) rfl (by decide +kernel) ⟨Nat.le_of_ble_eq_true rfl, Nat.le_of_ble_eq_true rfl⟩) ⟨fun a U g mk q => by obtain ⟨q0, q1, qP, qK, qD, qT⟩ := q; exact ⟨q0, q1, qP, va_K.moved (u := U) (U := U.calling g mk a) (Vm.Alike.refl U.vm) qK, qD, qT.mv (U := U.calling g mk a) (State.WarmedH.refl U)⟩, fun U hU hW => ⟨rfl, by rw [hU], by rw [hU]; exact hPc, va_K.moved hW.alike hK, hDc.weaken (fun _ _ _ _ => trivial), hT.call hS hFc hU hW⟩⟩ rfl rfl hl.1 rfl (lv_room (Nat.le_of_ble_eq_true rfl)) dJ0_init_81219_3 ⟨hbk.1, hbk.2⟩) hS (fun q _ h => hFc q h) hFc (fun u t H1 locs ht hvm hwp hB hz1 hk1 hS => ?_)
  obtain ⟨u3_1, u3_2, u3_3⟩ := u
  obtain ⟨hP1, -, hD1⟩ := hB
  rw [ht] at hP1
  obtain ⟨hP, hD⟩ := va_join (wr := []) (w1 := [(q, .inr (11, [.ref u3_1, .int 0, .int 0, .int 0])), (q1, .inr (12, [.ref tp1, .int 0, .int tl1, .int tc1])), (tp1, .inl (C 1, tn1, .inl tf1)), (u3_1, .inl (C 1, u3_2, .inl u3_3))]) hP hD [0, 1, 2] [] rfl rfl (by decide) (by decide) hk1 hFc hP1 hD1
  generalize H1 = H at hP hS ⊢
  have hP : va_P D vwCl [(q, .inr (11, [.ref u3_1, .int 0, .int 0, .int 0])), (q1, .inr (12, [.ref tp1, .int 0, .int tl1, .int tc1])), (tp1, .inl (C 1, tn1, .inl tf1)), (u3_1, .inl (C 1, u3_2, .inl u3_3))] H := hP
  have hD : va_D A [(q, .inr (11, [.ref u3_1, .int 0, .int 0, .int 0])), (q1, .inr (12, [.ref tp1, .int 0, .int tl1, .int tc1])), (tp1, .inl (C 1, tn1, .inl tf1)), (u3_1, .inl (C 1, u3_2, .inl u3_3))] := hD
  obtain ⟨hbk, hwp⟩ := hwp
  have hP9 := hP.sub (ws' := [(q, .inr (11, [.ref u3_1, .int 0, .int 0, .int 0])), (q1, .inr (12, [.ref tp1, .int 0, .int tl1, .int tc1])), (tp1, .inl (C 1, tn1, .inl tf1)), (u3_1, .inl (C 1, u3_2, .inl u3_3))]) [0, 1, 2, 3] rfl
  have hD9 := hD.sub (ws' := [(q, .inr (11, [.ref u3_1, .int 0, .int 0, .int 0])), (q1, .inr (12, [.ref tp1, .int 0, .int tl1, .int tc1])), (tp1, .inl (C 1, tn1, .inl tf1)), (u3_1, .inl (C 1, u3_2, .inl u3_3))]) [0, 1, 2, 3] (by decide) rfl
  refine W.widen (k := mc) (n := ms) hbk.1 hbk.2 ?_
  exact W.vret hx hb hr (fun t ht hW => ⟨⟨(u3_1, u3_2, u3_3), rfl, hwp, by rw [ht]; exact hP9, va_K.moved hW.alike hK, hD9⟩, hS.F ht⟩) hS.2.2 dJ0_init_81219_6

abbrev ws_J4_toString_0e30d : List Cond := .code yJ4_toString_0e30d cJ4_toString_0e30d 1 (some (.object "java/lang/String")) :: WALL
theorem gc_J0_init_81219 : GoodIn WALL ws_J0_init_81219 := gc_0 wd_769
abbrev rm_J4_toString_0e30d (mc ms : Nat) : Room := { frames := 5, cells := mc, slots := ms, locals := 155 }
abbrev w_J4_toString_0e30d (C : Nat → ClassId) (q : Nat) (tp : Nat) (tn : Nat) (tf : Nat → Int32) (tc : Int32) (tl : Int32) : va_W := [(q, .inr (12, [.ref tp, .int 0, .int tl, .int tc])), (tp, .inl (C 1, tn, .inl tf))]
abbrev wo_J4_toString_0e30d (C : Nat → ClassId) (q : Nat) (tp : Nat) (tn : Nat) (tf : Nat → Int32) (tc : Int32) (tl : Int32) (rs : Nat) (rp : Nat) (rn : Nat) (rf : Nat → Int32) : va_W := [(q, .inr (12, [.ref tp, .int 0, .int tl, .int tc])), (tp, .inl (C 1, tn, .inl tf)), (rs, .inr (11, [.ref rp, .int 0, .int 0, .int 0])), (rp, .inl (C 1, rn, .inl rf))]
abbrev q_J4_toString_0e30d (D : va_G) (C : Nat → ClassId) (q : Nat) (tp : Nat) (tn : Nat) (tf : Nat → Int32) (tc : Int32) (tl : Int32) (Q : Nat → Nat → Nat → (Nat → Int32) → Prop) (A : Nat → Prop) : Array Value → State → Outcome → State → Prop := va_Qr (fun (u : Nat × Nat × Nat × (Nat → Int32)) => Q u.1 u.2.1 u.2.2.1 u.2.2.2) (fun (u : Nat × Nat × Nat × (Nat → Int32)) (a : Nat) (t : State) => a = u.1 ∧ va_P D vwCl (wo_J4_toString_0e30d C q tp tn tf tc tl u.1 u.2.1 u.2.2.1 u.2.2.2) t.heap ∧ va_K D vwCl (tyL C) t ∧ va_D A (wo_J4_toString_0e30d C q tp tn tf tc tl u.1 u.2.1 u.2.2.1 u.2.2.2)) A
set_option maxHeartbeats 4000000 in
set_option maxRecDepth 100000 in
theorem met_J4_toString_0e30d (l : Launch) (hst : l.stackTraces = false) (D : va_G) (C : Nat → ClassId) (q : Nat) (tp : Nat) (tn : Nat) (tf : Nat → Int32) (tc : Int32) (tl : Int32) (mc : Nat) (ms : Nat) (sz : Nat) (Q : Nat → Nat → Nat → (Nat → Int32) → Prop) (hwp : wp_J4_toString_0e30d tp tn tf tc tl mc ms Q) : Met l yJ4_toString_0e30d ws_J4_toString_0e30d (rm_J4_toString_0e30d mc ms) (va_Pc [.ref q] (fun U => U.heap.size = sz ∧ va_P D vwCl (w_J4_toString_0e30d C q tp tn tf tc tl) U.heap ∧ va_K D vwCl (tyL C) U ∧ va_D (fun _ => True) (w_J4_toString_0e30d C q tp tn tf tc tl) ∧ TX (va_A (w_J4_toString_0e30d C q tp tn tf tc tl) sz) U U.heap)) (q_J4_toString_0e30d D C q tp tn tf tc tl Q (va_A (w_J4_toString_0e30d C q tp tn tf tc tl) sz)) mc ms (va_A (w_J4_toString_0e30d C q tp tn tf tc tl) sz) := by
  refine Met.ofW (cc := cJ4_toString_0e30d) (maxL := 1) (ret := (some (.object "java/lang/String"))) (by decide) rfl ?_
  intro p e s m args below meth c s₁ B hml hv
  obtain ⟨rfl, hsz, hP, hK, hD0, hT⟩ := hv
  have hx := B.exec
  have hb := B.bytes
  have hr := B.returns
  have hts : ∀ w ∈ WALL, w.before _ s = true := fun w h => atoms_spec (ws := ws_J4_toString_0e30d) B.pre w (List.mem_cons_of_mem _ h)
  have hown : s.vm.findClass RJ4 = some m.cls := findClass_of_methodNamed B.named
  have hlocks := B.notSynchronized
  subst hsz
  have hD := hD0.self (sz := s.heap.size)
  generalize hAe : va_A (w_J4_toString_0e30d C q tp tn tf tc tl) s.heap.size = A at hD ⊢ hT
  have hA : ∀ q : Nat, s.heap.size ≤ q → A q := fun q h => by rw [← hAe]; exact Or.inr h
  have hS : va_S A s.heap s.heap [] := va_S.rf
  have hl := lv_entry ([.ref q]) (n := 1) (Nat.le_of_ble_eq_true rfl)
  rw [lg_entry_eq]
  generalize (lg_sl ([.ref q]) ++ List.replicate (1 - (lg_sl ([.ref q])).length) Slot.unset).toArray = ls at hl ⊢
  have hl : lv_has ls 1 [(0, .ref q)] := hl
  unfold wp_J4_toString_0e30d at hwp
  obtain ⟨H, hH⟩ : ∃ H, H = s.heap := ⟨_, rfl⟩
  obtain ⟨locs, hlo⟩ : ∃ z : List Loc, z = [] := ⟨_, rfl⟩
  have hP : va_P D vwCl [(q, .inr (12, [.ref tp, .int 0, .int tl, .int tc])), (tp, .inl (C 1, tn, .inl tf))] H := by rw [hH]; exact hP
  have hD : va_D A [(q, .inr (12, [.ref tp, .int 0, .int tl, .int tc])), (tp, .inl (C 1, tn, .inl tf))] := hD
  have hS : va_S A s.heap H locs := by rw [hH, hlo]; exact hS
  suffices K : W p l e (headSpec ws_J4_toString_0e30d (rm_J4_toString_0e30d mc ms)).room s m ([.ref q] : List Value).toArray below meth c H locs 0 0 (MQ below (q_J4_toString_0e30d D C q tp tn tf tc tl Q A) ([.ref q] : List Value).toArray s mc ms A) (F0 m 0 ls []) from by rw [hH, hlo] at K; exact K
  obtain ⟨hbk, hwp⟩ := hwp
  refine va_new (ci := 11) (fs := [.null, .int 0, .int 0, .int 0]) (C := RJ0) (T := TJ0) (N := 4) hx hb hts iwJ0 tyJ0 tyJ0_ok hown (hts (.classLink RJ4 18 RJ0) wd_765) (hts (.instantiable RJ0 4) wd_766) (hts (.initialized RJ0) wd_48) hK hP hD hS hA rfl (fun j hj => by rcases (show j = 0 ∨ j = 1 ∨ j = 2 ∨ j = 3 by omega) with rfl | rfl | rfl | rfl <;> rfl) hbk.1 hbk.2 dJ4_toString_0e30d_0 (fun a0 H hP hD hS => ?_)
  have hP : va_P D vwCl [(q, .inr (12, [.ref tp, .int 0, .int tl, .int tc])), (tp, .inl (C 1, tn, .inl tf)), (a0, .inr (11, [.null, .int 0, .int 0, .int 0]))] H := hP
  have hD : va_D A [(q, .inr (12, [.ref tp, .int 0, .int tl, .int tc])), (tp, .inl (C 1, tn, .inl tf)), (a0, .inr (11, [.null, .int 0, .int 0, .int 0]))] := hD
  have hwp := hwp a0
  refine lv_dup hx hb dJ4_toString_0e30d_3 rfl ?_
  refine lv_aload_n hx hb dJ4_toString_0e30d_4 rfl (lv_at hl 0 rfl) ?_
  have hPc := hP.sub (ws' := [(a0, .inr (11, [.null, .int 0, .int 0, .int 0])), (q, .inr (12, [.ref tp, .int 0, .int tl, .int tc])), (tp, .inl (C 1, tn, .inl tf))]) [2, 0, 1] rfl
  have hDc := hD.sub (ws' := [(a0, .inr (11, [.null, .int 0, .int 0, .int 0])), (q, .inr (12, [.ref tp, .int 0, .int tl, .int tc])), (tp, .inl (C 1, tn, .inl tf))]) [2, 0, 1] (by decide) rfl
  have hFc := va_free (wc := [(a0, .inr (11, [.null, .int 0, .int 0, .int 0])), (q, .inr (12, [.ref tp, .int 0, .int tl, .int tc])), (tp, .inl (C 1, tn, .inl tf))]) hD hS hA [2, 0, 1] rfl
  obtain ⟨mb5, sb5, hbk, hwp⟩ := hwp
  refine va_callv (va_runI (As := [.ref q]) (rest := [.ref a0]) ⟨hx, hb, hml, hown, hts⟩ (met_J0_init_81219 l hst D C a0 q tp tn tf tc tl mb5 sb5 H.size _ hwp) (cwI 1 hts gc_J0_init_81219 rfl rfl rfl (hts (.initialized RJ0) wd_48) (hts (.methodLink RJ4 137 yJ0_init_81219) wd_767) (hts (.instanceMethod yJ0_init_81219) wd_768) rfl (by decide +kernel) ⟨Nat.le_of_ble_eq_true rfl, Nat.le_of_ble_eq_true rfl⟩) ⟨fun a U g mk q => by obtain ⟨q0, q1, qP, qK, qD, qT⟩ := q; exact ⟨q0, q1, qP, va_K.moved (u := U) (U := U.calling g mk a) (Vm.Alike.refl U.vm) qK, qD, qT.mv (U := U.calling g mk a) (State.WarmedH.refl U)⟩, fun U hU hW => ⟨rfl, by rw [hU], by rw [hU]; exact hPc, va_K.moved hW.alike hK, hDc.weaken (fun _ _ _ _ => trivial), hT.call hS hFc hU hW⟩⟩ rfl rfl hl.1 rfl (lv_room (Nat.le_of_ble_eq_true rfl)) dJ4_toString_0e30d_5 ⟨hbk.1, hbk.2⟩) hS (fun q _ h => hFc q h) hFc (fun u t H1 locs ht hvm hwp hB hz1 hk1 hS => ?_)
  obtain ⟨u5_1, u5_2, u5_3⟩ := u
  obtain ⟨hP1, -, hD1⟩ := hB
  rw [ht] at hP1
  obtain ⟨hP, hD⟩ := va_join (wr := []) (w1 := [(a0, .inr (11, [.ref u5_1, .int 0, .int 0, .int 0])), (q, .inr (12, [.ref tp, .int 0, .int tl, .int tc])), (tp, .inl (C 1, tn, .inl tf)), (u5_1, .inl (C 1, u5_2, .inl u5_3))]) hP hD [2, 0, 1] [] rfl rfl (by decide) (by decide) hk1 hFc hP1 hD1
  generalize H1 = H at hP hS ⊢
  have hP : va_P D vwCl [(a0, .inr (11, [.ref u5_1, .int 0, .int 0, .int 0])), (q, .inr (12, [.ref tp, .int 0, .int tl, .int tc])), (tp, .inl (C 1, tn, .inl tf)), (u5_1, .inl (C 1, u5_2, .inl u5_3))] H := hP
  have hD : va_D A [(a0, .inr (11, [.ref u5_1, .int 0, .int 0, .int 0])), (q, .inr (12, [.ref tp, .int 0, .int tl, .int tc])), (tp, .inl (C 1, tn, .inl tf)), (u5_1, .inl (C 1, u5_2, .inl u5_3))] := hD
  obtain ⟨hbk, hwp⟩ := hwp
  have hP9 := hP.sub (ws' := [(q, .inr (12, [.ref tp, .int 0, .int tl, .int tc])), (tp, .inl (C 1, tn, .inl tf)), (a0, .inr (11, [.ref u5_1, .int 0, .int 0, .int 0])), (u5_1, .inl (C 1, u5_2, .inl u5_3))]) [1, 2, 0, 3] rfl
  have hD9 := hD.sub (ws' := [(q, .inr (12, [.ref tp, .int 0, .int tl, .int tc])), (tp, .inl (C 1, tn, .inl tf)), (a0, .inr (11, [.ref u5_1, .int 0, .int 0, .int 0])), (u5_1, .inl (C 1, u5_2, .inl u5_3))]) [1, 2, 0, 3] (by decide) rfl
  refine W.widen (k := mc) (n := ms) hbk.1 hbk.2 ?_
  exact W.aret (v := .ref a0) (rt := (.object "java/lang/String")) hx hb hr (Or.inl ⟨_, rfl⟩) (Or.inr ⟨_, rfl⟩) (fun t ht hW => ⟨⟨(a0, u5_1, u5_2, u5_3), a0, rfl, hwp, rfl, by rw [ht]; exact hP9, va_K.moved hW.alike hK, hD9⟩, hS.F ht⟩) hS.2.2 dJ4_toString_0e30d_8

