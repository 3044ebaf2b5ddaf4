abbrev ws_J8_newLength_cabcc : List Cond := .code yJ8_newLength_cabcc cJ8_newLength_cabcc 4 (some .int) :: WALL
abbrev rm_J8_newLength_cabcc : Room := { frames := 1, cells := 0, slots := 0, locals := 21 }
abbrev w_J8_newLength_cabcc (C : Nat → ClassId) : va_W := []
abbrev q_J8_newLength_cabcc (D : va_G) (C : Nat → ClassId) (Q : Int32 → Prop) (A : Nat → Prop) : Array Value → State → Outcome → State → Prop := va_Qi (fun (r : Int32) (u : Unit) => Q r) (fun (u : Unit) (t : State) => va_P D vwCl (w_J8_newLength_cabcc C ) t.heap ∧ va_K D vwCl (tyL C) t ∧ va_D A (w_J8_newLength_cabcc C )) A
set_option maxHeartbeats 4000000 in
set_option maxRecDepth 100000 in
theorem met_J8_newLength_cabcc (l : Launch) (D : va_G) (C : Nat → ClassId) (p0 : Int32) (p1 : Int32) (p2 : Int32) (sz : Nat) (Q : Int32 → Prop) (hwp : wp_J8_newLength_cabcc p0 p1 p2 Q) : Met l yJ8_newLength_cabcc ws_J8_newLength_cabcc rm_J8_newLength_cabcc (va_Pc [.int p0, .int p1, .int p2] (fun U => U.heap.size = sz ∧ va_P D vwCl (w_J8_newLength_cabcc C ) U.heap ∧ va_K D vwCl (tyL C) U ∧ va_D (fun _ => True) (w_J8_newLength_cabcc C ))) (q_J8_newLength_cabcc D C  Q (va_A (w_J8_newLength_cabcc C ) sz)) 0 0 (va_A (w_J8_newLength_cabcc C ) sz) := by
  refine Met.ofW (cc := cJ8_newLength_cabcc) (maxL := 4) (ret := (some .int)) (by decide) rfl ?_
  intro p e s m args below meth c s₁ B hml hv
  obtain ⟨rfl, hsz, hP, hK, hD0⟩ := hv
  have hx := B.exec
  have hb := B.bytes
  have hr := B.returns
  have hts : ∀ w ∈ WALL, w.before _ s = true := fun w h => atoms_spec (ws := ws_J8_newLength_cabcc) B.pre w (List.mem_cons_of_mem _ h)
  have hown : s.vm.findClass RJ8 = some m.cls := findClass_of_methodNamed B.named
  have hlocks := B.notSynchronized
  subst hsz
  have hD := hD0.self (sz := s.heap.size)
  generalize hAe : va_A (w_J8_newLength_cabcc C ) s.heap.size = A at hD ⊢
  have hA : ∀ q : Nat, s.heap.size ≤ q → A q := fun q h => by rw [← hAe]; exact Or.inr h
  have hS : va_S A s.heap s.heap [] := va_S.rf
  have hl := lv_entry ([.int p0, .int p1, .int p2]) (n := 4) (Nat.le_of_ble_eq_true rfl)
  rw [lg_entry_eq]
  generalize (lg_sl ([.int p0, .int p1, .int p2]) ++ List.replicate (4 - (lg_sl ([.int p0, .int p1, .int p2])).length) Slot.unset).toArray = ls at hl ⊢
  have hl : lv_has ls 4 [(0, .int p0), (1, .int p1), (2, .int p2)] := hl
  unfold wp_J8_newLength_cabcc at hwp
  obtain ⟨H, hH⟩ : ∃ H, H = s.heap := ⟨_, rfl⟩
  obtain ⟨locs, hlo⟩ : ∃ z : List Loc, z = [] := ⟨_, rfl⟩
  have hP : va_P D vwCl [] H := by rw [hH]; exact hP
  have hD : va_D A [] := hD
  have hS : va_S A s.heap H locs := by rw [hH, hlo]; exact hS
  suffices K : W p l e (headSpec ws_J8_newLength_cabcc rm_J8_newLength_cabcc).room s m ([.int p0, .int p1, .int p2] : List Value).toArray below meth c H locs 0 0 (MQ below (q_J8_newLength_cabcc D C Q A) ([.int p0, .int p1, .int p2] : List Value).toArray s 0 0 A) (F0 m 0 ls []) from by rw [hH, hlo] at K; exact K
  refine lv_iload_n hx hb dJ8_newLength_cabcc_0 rfl (lv_at hl 0 rfl) ?_
  refine lv_iload_n hx hb dJ8_newLength_cabcc_1 rfl (lv_at hl 1 rfl) ?_
  refine lv_iload_n hx hb dJ8_newLength_cabcc_2 rfl (lv_at hl 2 rfl) ?_
  refine va_mmax (own := RJ8) (index := 194) hx hb (hml.trans hl.1.symm) hown (hts (.methodLink RJ8 194 Lib.Math.max.name) wd_627) (hts (.static Lib.Math.max.name) wd_628) (hts (.initialized "java/lang/Math") wd_51) (hts (.code Lib.Math.max.name Lib.Math.max.code 2 (some .int)) wd_629_0) (Nat.le_of_ble_eq_true rfl) (Nat.le_of_ble_eq_true rfl) (Nat.zero_le _) (Nat.zero_le _) dJ8_newLength_cabcc_3 ?_
  refine lv_iadd hx hb dJ8_newLength_cabcc_6 ?_
  refine lv_topi (fun v7 ev7 => ?_)
  have hwp := hwp v7 ev7
  refine lv_istore_n (lv' := [(3, .int v7), (0, .int p0), (1, .int p1), (2, .int p2)]) hx hb dJ8_newLength_cabcc_7 rfl hl (by decide) rfl (fun ls hl => ?_)
  refine lv_iconst (v := 0) hx hb dJ8_newLength_cabcc_8 (by decide) ?_
  refine lv_iload_n hx hb dJ8_newLength_cabcc_9 rfl (lv_at hl 0 rfl) ?_
  refine lv_icmp_ge (tgt := 21) hx hb dJ8_newLength_cabcc_10 (by decide) (fun c10 => ?_) (fun c10 => ?_)
  · have hwp := hwp.1 c10
    exact False.elim hwp
  · have hwp := hwp.2 c10
    refine lv_iload_n hx hb dJ8_newLength_cabcc_13 rfl (lv_at hl 0 rfl) ?_
    refine lv_ldc (own := RJ8) (index := 200) (v := 2147483639) hx hb hown (hts (.constant RJ8 200 (2147483639)) wd_630) dJ8_newLength_cabcc_14 ?_
    refine lv_icmp_gt (tgt := 21) hx hb dJ8_newLength_cabcc_16 (by decide) (fun c16 => ?_) (fun c16 => ?_)
    · have hwp := hwp.1 c16
      exact False.elim hwp
    · have hwp := hwp.2 c16
      refine lv_iload_n hx hb dJ8_newLength_cabcc_19 rfl (lv_at hl 0 rfl) ?_
      have hP9 := hP.sub (ws' := []) [] rfl
      have hD9 := hD.sub (ws' := []) [] (by decide) rfl
      exact W.iret (v := v7) hx hb hr (fun t ht hW => ⟨⟨v7, (), rfl, hwp, by rw [ht]; exact hP9, va_K.moved hW.alike hK, hD9⟩, hS.F ht⟩) hS.2.2 dJ8_newLength_cabcc_20

abbrev ws_J7_copyOf_9075b : List Cond := .code yJ7_copyOf_9075b cJ7_copyOf_9075b 3 (some (.array .byte)) :: WALL
abbrev rm_J7_copyOf_9075b (mc ms : Nat) : Room := { frames := 1, cells := mc, slots := ms, locals := 64 }
abbrev w_J7_copyOf_9075b (C : Nat → ClassId) (q0 : Nat) (tn0 : Nat) (t0 : Nat → Int32) : va_W := [(q0, .inl (C 1, tn0, .inl t0))]
abbrev wo_J7_copyOf_9075b (C : Nat → ClassId) (q0 : Nat) (tn0 : Nat) (t0 : Nat → Int32) (rp : Nat) (rn : Nat) (rf : Nat → Int32) : va_W := [(q0, .inl (C 1, tn0, .inl t0)), (rp, .inl (C 1, rn, .inl rf))]
abbrev q_J7_copyOf_9075b (D : va_G) (C : Nat → ClassId) (q0 : Nat) (tn0 : Nat) (t0 : Nat → Int32) (Q : Nat → Nat → (Nat → Int32) → Prop) (A : Nat → Prop) : Array Value → State → Outcome → State → Prop := va_Qr (fun (u : Nat × Nat × (Nat → Int32)) => Q u.1 u.2.1 u.2.2) (fun (u : Nat × Nat × (Nat → Int32)) (a : Nat) (t : State) => a = u.1 ∧ va_P D vwCl (wo_J7_copyOf_9075b C q0 tn0 t0 u.1 u.2.1 u.2.2) t.heap ∧ va_K D vwCl (tyL C) t ∧ va_D A (wo_J7_copyOf_9075b C q0 tn0 t0 u.1 u.2.1 u.2.2)) A
set_option maxHeartbeats 4000000 in
set_option maxRecDepth 100000 in
theorem met_J7_copyOf_9075b (l : Launch) (hst : l.stackTraces = false) (D : va_G) (C : Nat → ClassId) (q0 : Nat) (p1 : Int32) (tn0 : Nat) (t0 : Nat → Int32) (mc : Nat) (ms : Nat) (sz : Nat) (Q : Nat → Nat → (Nat → Int32) → Prop) (hwp : wp_J7_copyOf_9075b p1 tn0 t0 mc ms Q) : Met l yJ7_copyOf_9075b ws_J7_copyOf_9075b (rm_J7_copyOf_9075b mc ms) (va_Pc [.ref q0, .int p1] (fun U => U.heap.size = sz ∧ va_P D vwCl (w_J7_copyOf_9075b C q0 tn0 t0) U.heap ∧ va_K D vwCl (tyL C) U ∧ va_D (fun _ => True) (w_J7_copyOf_9075b C q0 tn0 t0) ∧ TX (va_A (w_J7_copyOf_9075b C q0 tn0 t0) sz) U U.heap)) (q_J7_copyOf_9075b D C q0 tn0 t0 Q (va_A (w_J7_copyOf_9075b C q0 tn0 t0) sz)) mc ms (va_A (w_J7_copyOf_9075b C q0 tn0 t0) sz) := by
  refine Met.ofW (cc := cJ7_copyOf_9075b) (maxL := 3) (ret := (some (.array .byte))) (by decide) rfl ?_
  intro p e s m args below meth c s₁ B hml hv
  obtain ⟨rfl, hsz, hP, hK, hD0, hT⟩ := hv
  have hx := B.exec
  have hb := B.bytes
  have hr := B.returns
  have hts : ∀ w ∈ WALL, w.before _ s = true := fun w h => atoms_spec (ws := ws_J7_copyOf_9075b) B.pre w (List.mem_cons_of_mem _ h)
  have hown : s.vm.findClass RJ7 = some m.cls := findClass_of_methodNamed B.named
  have hlocks := B.notSynchronized
  subst hsz
  have hD := hD0.self (sz := s.heap.size)
  generalize hAe : va_A (w_J7_copyOf_9075b C q0 tn0 t0) s.heap.size = A at hD ⊢ hT
  have hA : ∀ q : Nat, s.heap.size ≤ q → A q := fun q h => by rw [← hAe]; exact Or.inr h
  have hS : va_S A s.heap s.heap [] := va_S.rf
  have hl := lv_entry ([.ref q0, .int p1]) (n := 3) (Nat.le_of_ble_eq_true rfl)
  rw [lg_entry_eq]
  generalize (lg_sl ([.ref q0, .int p1]) ++ List.replicate (3 - (lg_sl ([.ref q0, .int p1])).length) Slot.unset).toArray = ls at hl ⊢
  have hl : lv_has ls 3 [(0, .ref q0), (1, .int p1)] := hl
  unfold wp_J7_copyOf_9075b at hwp
  obtain ⟨H, hH⟩ : ∃ H, H = s.heap := ⟨_, rfl⟩
  obtain ⟨locs, hlo⟩ : ∃ z : List Loc, z = [] := ⟨_, rfl⟩
  have hP : va_P D vwCl [(q0, .inl (C 1, tn0, .inl t0))] H := by rw [hH]; exact hP
  have hD : va_D A [(q0, .inl (C 1, tn0, .inl t0))] := hD
  have hS : va_S A s.heap H locs := by rw [hH, hlo]; exact hS
  suffices K : W p l e (headSpec ws_J7_copyOf_9075b (rm_J7_copyOf_9075b mc ms)).room s m ([.ref q0, .int p1] : List Value).toArray below meth c H locs 0 0 (MQ below (q_J7_copyOf_9075b D C q0 tn0 t0 Q A) ([.ref q0, .int p1] : List Value).toArray s mc ms A) (F0 m 0 ls []) from by rw [hH, hlo] at K; exact K
  refine lv_iload_n hx hb dJ7_copyOf_9075b_0 rfl (lv_at hl 1 rfl) ?_
  refine lv_aload_n hx hb dJ7_copyOf_9075b_1 rfl (lv_at hl 0 rfl) ?_
  refine va_alen (D := D) hx hb hK hP 0 1 rfl rfl (v := Int32.ofNat tn0) rfl dJ7_copyOf_9075b_2 ?_
  refine lv_icmp_ne (tgt := 14) hx hb dJ7_copyOf_9075b_3 (by decide) (fun c3 => ?_) (fun c3 => ?_)
  · have hwp := hwp.1 c3
    refine lv_iload_n hx hb dJ7_copyOf_9075b_14 rfl (lv_at hl 1 rfl) ?_
    obtain ⟨hnn, hwp⟩ := hwp
    obtain ⟨hbk, hwp⟩ := hwp
    refine va_newa (atype := .byte) (N' := p1.toNatClampNeg) (a0 := (p1.toNatClampNeg, .inl (fun _ => 0))) hx hb (hts (.arrayClass .byte) wd_145) rfl hK hP hD hS hA (fun cA => rfl) hnn.1 rfl (by have := hnn.2; show _ * 1 ≤ _; omega) hbk.1 hbk.2 dJ7_copyOf_9075b_15 (fun a15 cA H hK1 hP hD hS => ?_)
    obtain rfl : cA = C 1 := Option.some.inj ((hK1.2 4 _ rfl).2.symm.trans (hK.2 1 _ rfl).2)
    clear hK1
    have hP : va_P D vwCl [(q0, .inl (C 1, tn0, .inl t0)), (a15, .inl (C 1, p1.toNatClampNeg, .inl (fun _ => 0)))] H := hP
    have hD : va_D A [(q0, .inl (C 1, tn0, .inl t0)), (a15, .inl (C 1, p1.toNatClampNeg, .inl (fun _ => 0)))] := hD
    have hwp := hwp a15
    refine lv_astore_n (lv' := [(2, .ref a15), (0, .ref q0), (1, .int p1)]) hx hb dJ7_copyOf_9075b_17 rfl hl (by decide) rfl (fun ls hl => ?_)
    refine lv_aload_n hx hb dJ7_copyOf_9075b_18 rfl (lv_at hl 1 rfl) ?_
    refine lv_iconst (v := 0) hx hb dJ7_copyOf_9075b_19 (by decide) ?_
    refine lv_aload_n hx hb dJ7_copyOf_9075b_20 rfl (lv_at hl 0 rfl) ?_
    refine lv_iconst (v := 0) hx hb dJ7_copyOf_9075b_21 (by decide) ?_
    refine lv_aload_n hx hb dJ7_copyOf_9075b_22 rfl (lv_at hl 1 rfl) ?_
    refine va_alen (D := D) hx hb hK hP 0 1 rfl rfl (v := Int32.ofNat tn0) rfl dJ7_copyOf_9075b_23 ?_
    refine lv_iload_n hx hb dJ7_copyOf_9075b_24 rfl (lv_at hl 2 rfl) ?_
    obtain ⟨hbk, hwp⟩ := hwp
    refine va_mmin (own := RJ7) (index := 304) hx hb (hml.trans hl.1.symm) hown (hts (.methodLink RJ7 304 Lib.Math.min.name) wd_644) (hts (.static Lib.Math.min.name) wd_645) (hts (.initialized "java/lang/Math") wd_51) (hts (.code Lib.Math.min.name Lib.Math.min.code 2 (some .int)) wd_646_0) (Nat.le_of_ble_eq_true rfl) (Nat.le_of_ble_eq_true rfl) hbk.1 hbk.2 dJ7_copyOf_9075b_25 ?_
    obtain ⟨⟨g1, g2, g3, g4, g5, g6⟩, hwp⟩ := hwp
    refine va_copyi (D := D) (own := RJ7) (index := 150) hx hb (hml.trans hl.1.symm) hown (hts (.methodLink RJ7 150 arraycopyName) wd_647) (hts (.native arraycopyName) wd_557) (hts (.static arraycopyName) wd_556) (hts (.initialized "java/lang/System") wd_53) hK hP hD hS 0 1 1 1 rfl rfl rfl rfl rfl g1 g2 g3 g4 g5 g6 (Nat.le_of_ble_eq_true rfl) (Nat.le_of_ble_eq_true rfl) dJ7_copyOf_9075b_28 (fun H locs hP hD hS => ?_)
    have hP : va_P D vwCl [(q0, .inl (C 1, tn0, .inl t0)), (a15, .inl (C 1, p1.toNatClampNeg, .inl (va_cpy t0 (fun _ => 0) (0 : Int32).toNatClampNeg (0 : Int32).toNatClampNeg (if p1 < (Int32.ofNat tn0) then p1 else Int32.ofNat tn0).toNatClampNeg)))] H := hP
    have hD : va_D A [(q0, .inl (C 1, tn0, .inl t0)), (a15, .inl (C 1, p1.toNatClampNeg, .inl (va_cpy t0 (fun _ => 0) (0 : Int32).toNatClampNeg (0 : Int32).toNatClampNeg (if p1 < (Int32.ofNat tn0) then p1 else Int32.ofNat tn0).toNatClampNeg)))] := hD
    refine lv_aload_n hx hb dJ7_copyOf_9075b_31 rfl (lv_at hl 0 rfl) ?_
    obtain ⟨hbk, hwp⟩ := hwp
    have hP9 := hP.sub (ws' := [(q0, .inl (C 1, tn0, .inl t0)), (a15, .inl (C 1, p1.toNatClampNeg, .inl (va_cpy t0 (fun _ => 0) (0 : Int32).toNatClampNeg (0 : Int32).toNatClampNeg (if p1 < (Int32.ofNat tn0) then p1 else Int32.ofNat tn0).toNatClampNeg)))]) [0, 1] rfl
    have hD9 := hD.sub (ws' := [(q0, .inl (C 1, tn0, .inl t0)), (a15, .inl (C 1, p1.toNatClampNeg, .inl (va_cpy t0 (fun _ => 0) (0 : Int32).toNatClampNeg (0 : Int32).toNatClampNeg (if p1 < (Int32.ofNat tn0) then p1 else Int32.ofNat tn0).toNatClampNeg)))]) [0, 1] (by decide) rfl
    refine W.widen (k := mc) (n := ms) hbk.1 hbk.2 ?_
    exact W.aret (v := .ref a15) (rt := (.array .byte)) hx hb hr (Or.inr ⟨_, rfl⟩) (Or.inr ⟨_, rfl⟩) (fun t ht hW => ⟨⟨(a15, p1.toNatClampNeg, va_cpy t0 (fun _ => 0) (0 : Int32).toNatClampNeg (0 : Int32).toNatClampNeg (if p1 < (Int32.ofNat tn0) then p1 else Int32.ofNat tn0).toNatClampNeg), a15, rfl, hwp, rfl, by rw [ht]; exact hP9, va_K.moved hW.alike hK, hD9⟩, hS.F ht⟩) hS.2.2 dJ7_copyOf_9075b_32
  · have hwp := hwp.2 c3
    exact False.elim hwp

abbrev ws_J5_newCapacity_0f7a4 : List Cond := .code yJ5_newCapacity_0f7a4 cJ5_newCapacity_0f7a4 6 (some .int) :: WALL
theorem gc_J5_114 : GoodIn WALL (va_wsS RJ5 114 yJ8_newLength_cabcc ws_J8_newLength_cabcc) := gc_s wd_624 wd_625 wd_50 wd_626
abbrev rm_J5_newCapacity_0f7a4 : Room := { frames := 2, cells := 0, slots := 0, locals := 44 }
abbrev w_J5_newCapacity_0f7a4 (C : Nat → ClassId) (q : Nat) (tp : Nat) (tn : Nat) (tf : Nat → Int32) (tc : Int32) (tl : Int32) : va_W := [(q, .inr (12, [.ref tp, .int 0, .int tl, .int tc])), (tp, .inl (C 1, tn, .inl tf))]
abbrev q_J5_newCapacity_0f7a4 (D : va_G) (C : Nat → ClassId) (q : Nat) (tp : Nat) (tn : Nat) (tf : Nat → Int32) (tc : Int32) (tl : Int32) (Q : Int32 → Prop) (A : Nat → Prop) : Array Value → State → Outcome → State → Prop := va_Qi (fun (r : Int32) (u : Unit) => Q r) (fun (u : Unit) (t : State) => va_P D vwCl (w_J5_newCapacity_0f7a4 C q tp tn tf tc tl) t.heap ∧ va_K D vwCl (tyL C) t ∧ va_D A (w_J5_newCapacity_0f7a4 C q tp tn tf tc tl)) A
set_option maxHeartbeats 4000000 in
set_option maxRecDepth 100000 in
theorem met_J5_newCapacity_0f7a4 (l : Launch) (hst : l.stackTraces = false) (D : va_G) (C : Nat → ClassId) (q : Nat) (p1 : Int32) (tp : Nat) (tn : Nat) (tf : Nat → Int32) (tc : Int32) (tl : Int32) (sz : Nat) (Q : Int32 → Prop) (hwp : wp_J5_newCapacity_0f7a4 p1 tp tn tf tc tl Q) : Met l yJ5_newCapacity_0f7a4 ws_J5_newCapacity_0f7a4 rm_J5_newCapacity_0f7a4 (va_Pc [.ref q, .int p1] (fun U => U.heap.size = sz ∧ va_P D vwCl (w_J5_newCapacity_0f7a4 C q tp tn tf tc tl) U.heap ∧ va_K D vwCl (tyL C) U ∧ va_D (fun _ => True) (w_J5_newCapacity_0f7a4 C q tp tn tf tc tl) ∧ TX (va_A (w_J5_newCapacity_0f7a4 C q tp tn tf tc tl) sz) U U.heap)) (q_J5_newCapacity_0f7a4 D C q tp tn tf tc tl Q (va_A (w_J5_newCapacity_0f7a4 C q tp tn tf tc tl) sz)) 0 0 (va_A (w_J5_newCapacity_0f7a4 C q tp tn tf tc tl) sz) := by
  refine Met.ofW (cc := cJ5_newCapacity_0f7a4) (maxL := 6) (ret := (some .int)) (by decide) rfl ?_
  intro p e s m args below meth c s₁ B hml hv
  obtain ⟨rfl, hsz, hP, hK, hD0, hT⟩ := hv
  have hx := B.exec
  have hb := B.bytes
  have hr := B.returns
  have hts : ∀ w ∈ WALL, w.before _ s = true := fun w h => atoms_spec (ws := ws_J5_newCapacity_0f7a4) B.pre w (List.mem_cons_of_mem _ h)
  have hown : s.vm.findClass RJ5 = some m.cls := findClass_of_methodNamed B.named
  have hlocks := B.notSynchronized
  subst hsz
  have hD := hD0.self (sz := s.heap.size)
  generalize hAe : va_A (w_J5_newCapacity_0f7a4 C q tp tn tf tc tl) s.heap.size = A at hD ⊢ hT
  have hA : ∀ q : Nat, s.heap.size ≤ q → A q := fun q h => by rw [← hAe]; exact Or.inr h
  have hS : va_S A s.heap s.heap [] := va_S.rf
  have hl := lv_entry ([.ref q, .int p1]) (n := 6) (Nat.le_of_ble_eq_true rfl)
  rw [lg_entry_eq]
  generalize (lg_sl ([.ref q, .int p1]) ++ List.replicate (6 - (lg_sl ([.ref q, .int p1])).length) Slot.unset).toArray = ls at hl ⊢
  have hl : lv_has ls 6 [(0, .ref q), (1, .int p1)] := hl
  unfold wp_J5_newCapacity_0f7a4 at hwp
  obtain ⟨H, hH⟩ : ∃ H, H = s.heap := ⟨_, rfl⟩
  obtain ⟨locs, hlo⟩ : ∃ z : List Loc, z = [] := ⟨_, rfl⟩
  have hP : va_P D vwCl [(q, .inr (12, [.ref tp, .int 0, .int tl, .int tc])), (tp, .inl (C 1, tn, .inl tf))] H := by rw [hH]; exact hP
  have hD : va_D A [(q, .inr (12, [.ref tp, .int 0, .int tl, .int tc])), (tp, .inl (C 1, tn, .inl tf))] := hD
  have hS : va_S A s.heap H locs := by rw [hH, hlo]; exact hS
  suffices K : W p l e (headSpec ws_J5_newCapacity_0f7a4 rm_J5_newCapacity_0f7a4).room s m ([.ref q, .int p1] : List Value).toArray below meth c H locs 0 0 (MQ below (q_J5_newCapacity_0f7a4 D C q tp tn tf tc tl Q A) ([.ref q, .int p1] : List Value).toArray s 0 0 A) (F0 m 0 ls []) from by rw [hH, hlo] at K; exact K
  refine lv_aload_n hx hb dJ5_newCapacity_0f7a4_0 rfl (lv_at hl 0 rfl) ?_
  refine va_get (D := D) (ci := 12) (v := .ref tp) (C := RJ4) (T := TJ4) (N := 4) hx hb hts iwJ4 hown hK hP 0 rfl rfl 0 (by decide) (hts (.fieldLink RJ5 15 "java/lang/AbstractStringBuilder" "value" "[B") wd_713) (fun _ h9 => h9) rfl dJ5_newCapacity_0f7a4_1 ?_
  refine va_alen (D := D) hx hb hK hP 1 1 rfl rfl (v := Int32.ofNat tn) rfl dJ5_newCapacity_0f7a4_4 ?_
  refine lv_topi (fun v5 ev5 => ?_)
  have hwp := hwp v5 ev5
  refine lv_istore_n (lv' := [(2, .int v5), (0, .ref q), (1, .int p1)]) hx hb dJ5_newCapacity_0f7a4_5 rfl hl (by decide) rfl (fun ls hl => ?_)
  refine lv_iload_n hx hb dJ5_newCapacity_0f7a4_6 rfl (lv_at hl 2 rfl) ?_
  refine lv_aload_n hx hb dJ5_newCapacity_0f7a4_7 rfl (lv_at hl 1 rfl) ?_
  refine va_get (D := D) (ci := 12) (v := .int 0) (C := RJ4) (T := TJ4) (N := 4) hx hb hts iwJ4 hown hK hP 0 rfl rfl 1 (by decide) (hts (.fieldLink RJ5 22 "java/lang/AbstractStringBuilder" "coder" "B") wd_714) (fun _ h9 => h9) rfl dJ5_newCapacity_0f7a4_8 ?_
  refine lv_ishl hx hb dJ5_newCapacity_0f7a4_11 ?_
  refine lv_topi (fun v12 ev12 => ?_)
  have hwp := hwp v12 ev12
  refine lv_istore_n (lv' := [(3, .int v12), (2, .int v5), (0, .ref q), (1, .int p1)]) hx hb dJ5_newCapacity_0f7a4_12 rfl hl (by decide) rfl (fun ls hl => ?_)
  refine lv_iload_n hx hb dJ5_newCapacity_0f7a4_13 rfl (lv_at hl 0 rfl) ?_
  refine lv_iload_n hx hb dJ5_newCapacity_0f7a4_14 rfl (lv_at hl 1 rfl) ?_
  refine lv_isub hx hb dJ5_newCapacity_0f7a4_15 ?_
  refine lv_topi (fun v16 ev16 => ?_)
  have hwp := hwp v16 ev16
  refine lv_istore (lv' := [(4, .int v16), (3, .int v12), (2, .int v5), (0, .ref q), (1, .int p1)]) hx hb dJ5_newCapacity_0f7a4_16 hl (by decide) rfl (fun ls hl => ?_)
  refine lv_iload_n hx hb dJ5_newCapacity_0f7a4_18 rfl (lv_at hl 2 rfl) ?_
  refine lv_iload hx hb dJ5_newCapacity_0f7a4_19 (lv_at hl 0 rfl) ?_
  refine lv_iload_n hx hb dJ5_newCapacity_0f7a4_21 rfl (lv_at hl 2 rfl) ?_
  refine lv_iconst (v := 2) hx hb dJ5_newCapacity_0f7a4_22 (by decide) ?_
  refine lv_aload_n hx hb dJ5_newCapacity_0f7a4_23 rfl (lv_at hl 3 rfl) ?_
  refine va_get (D := D) (ci := 12) (v := .int 0) (C := RJ4) (T := TJ4) (N := 4) hx hb hts iwJ4 hown hK hP 0 rfl rfl 1 (by decide) (hts (.fieldLink RJ5 22 "java/lang/AbstractStringBuilder" "coder" "B") wd_714) (fun _ h9 => h9) rfl dJ5_newCapacity_0f7a4_24 ?_
  refine lv_ishl hx hb dJ5_newCapacity_0f7a4_27 ?_
  refine lv_iadd hx hb dJ5_newCapacity_0f7a4_28 ?_
  have hPc := hP.sub (ws' := []) [] rfl
  have hDc := hD.sub (ws' := []) [] (by decide) rfl
  have hFc := va_free (wc := []) hD hS hA [] rfl
  refine va_calli (va_runS (As := [.int v5, .int v16, .int (v5 + ((2 : Int32) <<< (0 &&& 31)))]) (rest := []) ⟨hx, hb, hml, hown, hts⟩ (met_J8_newLength_cabcc l D C v5 v16 (v5 + ((2 : Int32) <<< (0 &&& 31))) H.size _ hwp) (va_cwS 3 hts gc_J5_114 rfl rfl rfl (by decide +kernel) ⟨Nat.le_of_ble_eq_true rfl, Nat.le_of_ble_eq_true rfl⟩) ⟨fun a U g mk q => by obtain ⟨q0, q1, qP, qK, qD⟩ := q; exact ⟨q0, q1, qP, va_K.moved (u := U) (U := U.calling g mk a) (Vm.Alike.refl U.vm) qK, qD⟩, fun U hU hW => ⟨rfl, by rw [hU], by rw [hU]; exact hPc, va_K.moved hW.alike hK, hDc.weaken (fun _ _ _ _ => trivial)⟩⟩ rfl rfl hl.1 rfl (lv_room (Nat.le_of_ble_eq_true rfl)) dJ5_newCapacity_0f7a4_29 ⟨Nat.le_of_ble_eq_true rfl, Nat.le_of_ble_eq_true rfl⟩) hS (fun q _ h => hFc q h) hFc (fun r29 u t H1 locs ht hvm hwp hB hz1 hk1 hS => ?_)
  obtain ⟨hP1, -, hD1⟩ := hB
  rw [ht] at hP1
  obtain ⟨hP, hD⟩ := va_join (wr := [(q, .inr (12, [.ref tp, .int 0, .int tl, .int tc])), (tp, .inl (C 1, tn, .inl tf))]) (w1 := []) hP hD [] [0, 1] rfl rfl (by decide) (by decide) hk1 hFc hP1 hD1
  generalize H1 = H at hP hS ⊢
  have hP : va_P D vwCl [(q, .inr (12, [.ref tp, .int 0, .int tl, .int tc])), (tp, .inl (C 1, tn, .inl tf))] H := hP
  have hD : va_D A [(q, .inr (12, [.ref tp, .int 0, .int tl, .int tc])), (tp, .inl (C 1, tn, .inl tf))] := hD
  refine lv_istore (lv' := [(5, .int r29), (4, .int v16), (3, .int v12), (2, .int v5), (0, .ref q), (1, .int p1)]) hx hb dJ5_newCapacity_0f7a4_32 hl (by decide) rfl (fun ls hl => ?_)
  refine lv_iload hx hb dJ5_newCapacity_0f7a4_34 (lv_at hl 0 rfl) ?_
  refine lv_ldc (own := RJ5) (index := 39) (v := 2147483647) hx hb hown (hts (.constant RJ5 39 (2147483647)) wd_590) dJ5_newCapacity_0f7a4_36 ?_
  refine lv_icmp_ne (tgt := 51) hx hb dJ5_newCapacity_0f7a4_38 (by decide) (fun c38 => ?_) (fun c38 => ?_)
  · have hwp := hwp.1 c38
    refine lv_iload hx hb dJ5_newCapacity_0f7a4_51 (lv_at hl 0 rfl) ?_
    refine lv_aload_n hx hb dJ5_newCapacity_0f7a4_53 rfl (lv_at hl 4 rfl) ?_
    refine va_get (D := D) (ci := 12) (v := .int 0) (C := RJ4) (T := TJ4) (N := 4) hx hb hts iwJ4 hown hK hP 0 rfl rfl 1 (by decide) (hts (.fieldLink RJ5 22 "java/lang/AbstractStringBuilder" "coder" "B") wd_714) (fun _ h9 => h9) rfl dJ5_newCapacity_0f7a4_54 ?_
    refine lv_ishr hx hb dJ5_newCapacity_0f7a4_57 ?_
    have hP9 := hP.sub (ws' := [(q, .inr (12, [.ref tp, .int 0, .int tl, .int tc])), (tp, .inl (C 1, tn, .inl tf))]) [0, 1] rfl
    have hD9 := hD.sub (ws' := [(q, .inr (12, [.ref tp, .int 0, .int tl, .int tc])), (tp, .inl (C 1, tn, .inl tf))]) [0, 1] (by decide) rfl
    exact W.iret (v := r29 >>> (0 &&& 31)) hx hb hr (fun t ht hW => ⟨⟨r29 >>> (0 &&& 31), (), rfl, hwp, by rw [ht]; exact hP9, va_K.moved hW.alike hK, hD9⟩, hS.F ht⟩) hS.2.2 dJ5_newCapacity_0f7a4_58
  · have hwp := hwp.2 c38
    exact False.elim hwp

abbrev ws_J5_ensureCapacityInternal_d00df : List Cond := .code yJ5_ensureCapacityInternal_d00df cJ5_ensureCapacityInternal_d00df 3 none :: WALL
theorem gc_J5_104 : GoodIn (.selects RJ4 yJ5_newCapacity_0f7a4 yJ5_newCapacity_0f7a4 :: WALL) (va_wsU RJ5 104 RJ4 "java/lang/AbstractStringBuilder" yJ5_newCapacity_0f7a4 yJ5_newCapacity_0f7a4 ws_J5_newCapacity_0f7a4) := gc_up (by rfl) wx_620_0 wd_1224 wd_622 wd_46 wd_623
theorem gc_J5_108 : GoodIn WALL (va_wsS RJ5 108 yJ7_copyOf_9075b ws_J7_copyOf_9075b) := gc_s wd_634 wd_635 wd_52 wx_636_0
abbrev rm_J5_ensureCapacityInternal_d00df (mc ms : Nat) : Room := { frames := 3, cells := mc, slots := ms, locals := 86 }
abbrev w_J5_ensureCapacityInternal_d00df (C : Nat → ClassId) (q : Nat) (tp : Nat) (tn : Nat) (tf : Nat → Int32) (tc : Int32) (tl : Int32) : va_W := [(q, .inr (12, [.ref tp, .int 0, .int tl, .int tc])), (tp, .inl (C 1, tn, .inl tf))]
abbrev q_J5_ensureCapacityInternal_d00df (D : va_G) (C : Nat → ClassId) (q : Nat) (tc : Int32) (tl : Int32) (Q : Nat → Nat → (Nat → Int32) → Prop) (A : Nat → Prop) : Array Value → State → Outcome → State → Prop := va_Qv (fun (u : Nat × Nat × (Nat → Int32)) => Q u.1 u.2.1 u.2.2) (fun (u : Nat × Nat × (Nat → Int32)) (t : State) => va_P D vwCl (w_J5_ensureCapacityInternal_d00df C q u.1 u.2.1 u.2.2 tc tl) t.heap ∧ va_K D vwCl (tyL C) t ∧ va_D A (w_J5_ensureCapacityInternal_d00df C q u.1 u.2.1 u.2.2 tc tl)) A
set_option maxHeartbeats 4000000 in
set_option maxRecDepth 100000 in
theorem met_J5_ensureCapacityInternal_d00df (l : Launch) (hst : l.stackTraces = false) (D : va_G) (C : Nat → ClassId) (q : Nat) (p1 : Int32) (tp : Nat) (tn : Nat) (tf : Nat → Int32) (tc : Int32) (tl : Int32) (mc : Nat) (ms : Nat) (sz : Nat) (Q : Nat → Nat → (Nat → Int32) → Prop) (hwp : wp_J5_ensureCapacityInternal_d00df p1 tp tn tf tc tl mc ms Q) : Met l yJ5_ensureCapacityInternal_d00df ws_J5_ensureCapacityInternal_d00df (rm_J5_ensureCapacityInternal_d00df mc ms) (va_Pc [.ref q, .int p1] (fun U => U.heap.size = sz ∧ va_P D vwCl (w_J5_ensureCapacityInternal_d00df C q tp tn tf tc tl) U.heap ∧ va_K D vwCl (tyL C) U ∧ va_D (fun _ => True) (w_J5_ensureCapacityInternal_d00df C q tp tn tf tc tl) ∧ TX (va_A (w_J5_ensureCapacityInternal_d00df C q tp tn tf tc tl) sz) U U.heap)) (q_J5_ensureCapacityInternal_d00df D C q tc tl Q (va_A (w_J5_ensureCapacityInternal_d00df C q tp tn tf tc tl) sz)) mc ms (va_A (w_J5_ensureCapacityInternal_d00df C q tp tn tf tc tl) sz) := by
  refine Met.ofW (cc := cJ5_ensureCapacityInternal_d00df) (maxL := 3) (ret := none) (by decide) rfl ?_
  intro p e s m args below meth c s₁ B hml hv
  obtain ⟨rfl, hsz, hP, hK, hD0, hT⟩ := hv
  have hx := B.exec
  have hb := B.bytes
  have hr := B.returns
  have hts : ∀ w ∈ WALL, w.before _ s = true := fun w h => atoms_spec (ws := ws_J5_ensureCapacityInternal_d00df) B.pre w (List.mem_cons_of_mem _ h)
  have hown : s.vm.findClass RJ5 = some m.cls := findClass_of_methodNamed B.named
  have hlocks := B.notSynchronized
  subst hsz
  have hD := hD0.self (sz := s.heap.size)
  generalize hAe : va_A (w_J5_ensureCapacityInternal_d00df C q tp tn tf tc tl) s.heap.size = A at hD ⊢ hT
  have hA : ∀ q : Nat, s.heap.size ≤ q → A q := fun q h => by rw [← hAe]; exact Or.inr h
  have hS : va_S A s.heap s.heap [] := va_S.rf
  have hl := lv_entry ([.ref q, .int p1]) (n := 3) (Nat.le_of_ble_eq_true rfl)
  rw [lg_entry_eq]
  generalize (lg_sl ([.ref q, .int p1]) ++ List.replicate (3 - (lg_sl ([.ref q, .int p1])).length) Slot.unset).toArray = ls at hl ⊢
  have hl : lv_has ls 3 [(0, .ref q), (1, .int p1)] := hl
  unfold wp_J5_ensureCapacityInternal_d00df at hwp
  obtain ⟨H, hH⟩ : ∃ H, H = s.heap := ⟨_, rfl⟩
  obtain ⟨locs, hlo⟩ : ∃ z : List Loc, z = [] := ⟨_, rfl⟩
  have hP : va_P D vwCl [(q, .inr (12, [.ref tp, .int 0, .int tl, .int tc])), (tp, .inl (C 1, tn, .inl tf))] H := by rw [hH]; exact hP
  have hD : va_D A [(q, .inr (12, [.ref tp, .int 0, .int tl, .int tc])), (tp, .inl (C 1, tn, .inl tf))] := hD
  have hS : va_S A s.heap H locs := by rw [hH, hlo]; exact hS
  suffices K : W p l e (headSpec ws_J5_ensureCapacityInternal_d00df (rm_J5_ensureCapacityInternal_d00df mc ms)).room s m ([.ref q, .int p1] : List Value).toArray below meth c H locs 0 0 (MQ below (q_J5_ensureCapacityInternal_d00df D C q tc tl Q A) ([.ref q, .int p1] : List Value).toArray s mc ms A) (F0 m 0 ls []) from by rw [hH, hlo] at K; exact K
  refine lv_aload_n hx hb dJ5_ensureCapacityInternal_d00df_0 rfl (lv_at hl 0 rfl) ?_
  refine va_get (D := D) (ci := 12) (v := .ref tp) (C := RJ4) (T := TJ4) (N := 4) hx hb hts iwJ4 hown hK hP 0 rfl rfl 0 (by decide) (hts (.fieldLink RJ5 15 "java/lang/AbstractStringBuilder" "value" "[B") wd_713) (fun _ h9 => h9) rfl dJ5_ensureCapacityInternal_d00df_1 ?_
  refine va_alen (D := D) hx hb hK hP 1 1 rfl rfl (v := Int32.ofNat tn) rfl dJ5_ensureCapacityInternal_d00df_4 ?_
  refine lv_aload_n hx hb dJ5_ensureCapacityInternal_d00df_5 rfl (lv_at hl 0 rfl) ?_
  refine va_get (D := D) (ci := 12) (v := .int 0) (C := RJ4) (T := TJ4) (N := 4) hx hb hts iwJ4 hown hK hP 0 rfl rfl 1 (by decide) (hts (.fieldLink RJ5 22 "java/lang/AbstractStringBuilder" "coder" "B") wd_714) (fun _ h9 => h9) rfl dJ5_ensureCapacityInternal_d00df_6 ?_
  refine lv_ishr hx hb dJ5_ensureCapacityInternal_d00df_9 ?_
  refine lv_topi (fun v10 ev10 => ?_)
  have hwp := hwp v10 ev10
  refine lv_istore_n (lv' := [(2, .int v10), (0, .ref q), (1, .int p1)]) hx hb dJ5_ensureCapacityInternal_d00df_10 rfl hl (by decide) rfl (fun ls hl => ?_)
  refine lv_iload_n hx hb dJ5_ensureCapacityInternal_d00df_11 rfl (lv_at hl 2 rfl) ?_
  refine lv_iload_n hx hb dJ5_ensureCapacityInternal_d00df_12 rfl (lv_at hl 0 rfl) ?_
  refine lv_isub hx hb dJ5_ensureCapacityInternal_d00df_13 ?_
  refine lv_if_le (tgt := 38) hx hb dJ5_ensureCapacityInternal_d00df_14 (by decide) (fun c14 => ?_) (fun c14 => ?_)
  · have hwp := hwp.1 c14
    obtain ⟨hbk, hwp⟩ := hwp
    have hP9 := hP.sub (ws' := [(q, .inr (12, [.ref tp, .int 0, .int tl, .int tc])), (tp, .inl (C 1, tn, .inl tf))]) [0, 1] rfl
    have hD9 := hD.sub (ws' := [(q, .inr (12, [.ref tp, .int 0, .int tl, .int tc])), (tp, .inl (C 1, tn, .inl tf))]) [0, 1] (by decide) rfl
    refine W.widen (k := mc) (n := ms) hbk.1 hbk.2 ?_
    exact W.vret hx hb hr (fun t ht hW => ⟨⟨(tp, tn, tf), rfl, hwp, by rw [ht]; exact hP9, va_K.moved hW.alike hK, hD9⟩, hS.F ht⟩) hS.2.2 dJ5_ensureCapacityInternal_d00df_38
  · have hwp := hwp.2 c14
    refine lv_aload_n hx hb dJ5_ensureCapacityInternal_d00df_17 rfl (lv_at hl 1 rfl) ?_
    refine lv_aload_n hx hb dJ5_ensureCapacityInternal_d00df_18 rfl (lv_at hl 1 rfl) ?_
    refine va_get (D := D) (ci := 12) (v := .ref tp) (C := RJ4) (T := TJ4) (N := 4) hx hb hts iwJ4 hown hK hP 0 rfl rfl 0 (by decide) (hts (.fieldLink RJ5 15 "java/lang/AbstractStringBuilder" "value" "[B") wd_713) (fun _ h9 => h9) rfl dJ5_ensureCapacityInternal_d00df_19 ?_
    refine lv_aload_n hx hb dJ5_ensureCapacityInternal_d00df_22 rfl (lv_at hl 1 rfl) ?_
    refine lv_iload_n hx hb dJ5_ensureCapacityInternal_d00df_23 rfl (lv_at hl 2 rfl) ?_
    have hPc := hP.sub (ws' := [(q, .inr (12, [.ref tp, .int 0, .int tl, .int tc])), (tp, .inl (C 1, tn, .inl tf))]) [0, 1] rfl
    have hDc := hD.sub (ws' := [(q, .inr (12, [.ref tp, .int 0, .int tl, .int tc])), (tp, .inl (C 1, tn, .inl tf))]) [0, 1] (by decide) rfl
    have hFc := va_free (wc := [(q, .inr (12, [.ref tp, .int 0, .int tl, .int tc])), (tp, .inl (C 1, tn, .inl tf))]) hD hS hA [0, 1] rfl
    obtain ⟨hbk, hwp⟩ := hwp
    refine va_calli (va_runU (As := [.int p1]) (rest := [.ref tp, .ref q]) ⟨hx, hb, hml, hown, hts⟩ (met_J5_newCapacity_0f7a4 l hst D C q p1 tp tn tf tc tl H.size _ hwp) (va_cwU 1 (gc_upts (va_Nw.use (by rfl) (hT.2.2.2.2.2.2.2.2.2.2.1 yJ5_newCapacity_0f7a4 (by decide +kernel))) hts) gc_J5_104 rfl rfl rfl rfl (by decide +kernel) ⟨Nat.le_of_ble_eq_true rfl, Nat.le_of_ble_eq_true rfl⟩) ⟨fun a U g mk q => by obtain ⟨q0, q1, qP, qK, qD, qT⟩ := q; exact ⟨q0, q1, qP, va_K.moved (u := U) (U := U.calling g mk a) (Vm.Alike.refl U.vm) qK, qD, qT.mv (U := U.calling g mk a) (State.WarmedH.refl U)⟩, va_recv hK hPc (ci := 12) (q0 := 0) rfl rfl, fun U hU hW => ⟨rfl, by rw [hU], by rw [hU]; exact hPc, va_K.moved hW.alike hK, hDc.weaken (fun _ _ _ _ => trivial), hT.call hS hFc hU hW⟩⟩ rfl rfl hl.1 rfl (lv_room (Nat.le_of_ble_eq_true rfl)) dJ5_ensureCapacityInternal_d00df_24 ⟨hbk.1, hbk.2⟩) hS (fun q _ h => hFc q h) hFc (fun r24 u t H1 locs ht hvm hwp hB hz1 hk1 hS => ?_)
    obtain ⟨hP1, -, hD1⟩ := hB
    rw [ht] at hP1
    obtain ⟨hP, hD⟩ := va_join (wr := []) (w1 := [(q, .inr (12, [.ref tp, .int 0, .int tl, .int tc])), (tp, .inl (C 1, tn, .inl tf))]) hP hD [0, 1] [] rfl rfl (by decide) (by decide) hk1 hFc hP1 hD1
    generalize H1 = H at hP hS ⊢
    have hP : va_P D vwCl [(q, .inr (12, [.ref tp, .int 0, .int tl, .int tc])), (tp, .inl (C 1, tn, .inl tf))] H := hP
    have hD : va_D A [(q, .inr (12, [.ref tp, .int 0, .int tl, .int tc])), (tp, .inl (C 1, tn, .inl tf))] := hD
    refine lv_aload_n hx hb dJ5_ensureCapacityInternal_d00df_27 rfl (lv_at hl 1 rfl) ?_
    refine va_get (D := D) (ci := 12) (v := .int 0) (C := RJ4) (T := TJ4) (N := 4) hx hb hts iwJ4 hown hK hP 0 rfl rfl 1 (by decide) (hts (.fieldLink RJ5 22 "java/lang/AbstractStringBuilder" "coder" "B") wd_714) (fun _ h9 => h9) rfl dJ5_ensureCapacityInternal_d00df_28 ?_
    refine lv_ishl hx hb dJ5_ensureCapacityInternal_d00df_31 ?_
    have hPc := hP.sub (ws' := [(tp, .inl (C 1, tn, .inl tf))]) [1] rfl
    have hDc := hD.sub (ws' := [(tp, .inl (C 1, tn, .inl tf))]) [1] (by decide) rfl
    have hFc := va_free (wc := [(tp, .inl (C 1, tn, .inl tf))]) hD hS hA [1] rfl
    obtain ⟨mb32, sb32, hbk, hwp⟩ := hwp
    refine va_callr (va_runS (As := [.ref tp, .int (r24 <<< (0 &&& 31))]) (rest := [.ref q]) ⟨hx, hb, hml, hown, hts⟩ (met_J7_copyOf_9075b l hst D C tp (r24 <<< (0 &&& 31)) tn tf mb32 sb32 H.size _ hwp) (va_cwS 2 hts gc_J5_108 rfl rfl rfl (by decide +kernel) ⟨Nat.le_of_ble_eq_true rfl, Nat.le_of_ble_eq_true rfl⟩) ⟨fun a U g mk q => by obtain ⟨q0, q1, qP, qK, qD, qT⟩ := q; exact ⟨q0, q1, qP, va_K.moved (u := U) (U := U.calling g mk a) (Vm.Alike.refl U.vm) qK, qD, qT.mv (U := U.calling g mk a) (State.WarmedH.refl U)⟩, fun U hU hW => ⟨rfl, by rw [hU], by rw [hU]; exact hPc, va_K.moved hW.alike hK, hDc.weaken (fun _ _ _ _ => trivial), hT.call hS hFc hU hW⟩⟩ rfl rfl hl.1 rfl (lv_room (Nat.le_of_ble_eq_true rfl)) dJ5_ensureCapacityInternal_d00df_32 ⟨hbk.1, hbk.2⟩) hS (fun q _ h => hFc q h) hFc (fun u ra t H1 locs ht hvm hwp hB hz1 hk1 hS => ?_)
    obtain ⟨u32_1, u32_2, u32_3⟩ := u
    obtain ⟨hra, hP1, -, hD1⟩ := hB
    have hra := hra.symm
    subst hra
    rw [ht] at hP1
    obtain ⟨hP, hD⟩ := va_join (wr := [(q, .inr (12, [.ref tp, .int 0, .int tl, .int tc]))]) (w1 := [(tp, .inl (C 1, tn, .inl tf)), (u32_1, .inl (C 1, u32_2, .inl u32_3))]) hP hD [1] [0] rfl rfl (by decide) (by decide) hk1 hFc hP1 hD1
    generalize H1 = H at hP hS ⊢
    have hP : va_P D vwCl [(q, .inr (12, [.ref tp, .int 0, .int tl, .int tc])), (tp, .inl (C 1, tn, .inl tf)), (u32_1, .inl (C 1, u32_2, .inl u32_3))] H := hP
    have hD : va_D A [(q, .inr (12, [.ref tp, .int 0, .int tl, .int tc])), (tp, .inl (C 1, tn, .inl tf)), (u32_1, .inl (C 1, u32_2, .inl u32_3))] := hD
    refine va_put (D := D) (ci := 12) (v := .ref u32_1) (ty := (.array .byte)) (C := RJ4) (T := TJ4) (N := 4) hx hb hts iwJ4 tyJ4 tyJ4_ok nmJ4 hown hK hP hD hS 0 rfl rfl 0 (by decide) (hts (.fieldLink RJ5 15 "java/lang/AbstractStringBuilder" "value" "[B") wd_713) (fun _ h9 => h9) rfl (by decide +kernel) rfl rfl (Nat.le_of_ble_eq_true rfl) dJ5_ensureCapacityInternal_d00df_35 (fun H locs hP hD hS => ?_)
    have hP : va_P D vwCl [(q, .inr (12, [.ref u32_1, .int 0, .int tl, .int tc])), (tp, .inl (C 1, tn, .inl tf)), (u32_1, .inl (C 1, u32_2, .inl u32_3))] H := hP
    have hD : va_D A [(q, .inr (12, [.ref u32_1, .int 0, .int tl, .int tc])), (tp, .inl (C 1, tn, .inl tf)), (u32_1, .inl (C 1, u32_2, .inl u32_3))] := hD
    obtain ⟨hbk, hwp⟩ := hwp
    have hP9 := hP.sub (ws' := [(q, .inr (12, [.ref u32_1, .int 0, .int tl, .int tc])), (u32_1, .inl (C 1, u32_2, .inl u32_3))]) [0, 2] rfl
    have hD9 := hD.sub (ws' := [(q, .inr (12, [.ref u32_1, .int 0, .int tl, .int tc])), (u32_1, .inl (C 1, u32_2, .inl u32_3))]) [0, 2] (by decide) rfl
    refine W.widen (k := mc) (n := ms) hbk.1 hbk.2 ?_
    exact W.vret hx hb hr (fun t ht hW => ⟨⟨(u32_1, u32_2, u32_3), rfl, hwp, by rw [ht]; exact hP9, va_K.moved hW.alike hK, hD9⟩, hS.F ht⟩) hS.2.2 dJ5_ensureCapacityInternal_d00df_38

abbrev ws_J0_getBytes_840e7 : List Cond := .code yJ0_getBytes_840e7 cJ0_getBytes_840e7 4 none :: WALL
abbrev rm_J0_getBytes_840e7 : Room := { frames := 1, cells := 0, slots := 0, locals := 64 }
abbrev w_J0_getBytes_840e7 (C : Nat → ClassId) (q1 : Nat) (q : Nat) (t_bs : List Int32) (tn1 : Nat) (t1 : Nat → Int32) : va_W := [(q1, .inl (C 1, tn1, .inl t1))]
abbrev q_J0_getBytes_840e7 (D : va_G) (C : Nat → ClassId) (q1 : Nat) (q : Nat) (t_bs : List Int32) (tn1 : Nat) (Q : (Nat → Int32) → Prop) (A : Nat → Prop) : Array Value → State → Outcome → State → Prop := va_Qv (fun (u : (Nat → Int32)) => Q u) (fun (u : (Nat → Int32)) (t : State) => va_P D vwCl (w_J0_getBytes_840e7 C q1 q t_bs tn1 u) t.heap ∧ va_K D vwCl (tyL C) t ∧ va_D A (w_J0_getBytes_840e7 C q1 q t_bs tn1 u)) A
set_option maxHeartbeats 4000000 in
set_option maxRecDepth 100000 in
theorem met_J0_getBytes_840e7 (l : Launch) (hst : l.stackTraces = false) (D : va_G) (C : Nat → ClassId) (q1 : Nat) (q : Nat) (p2 : Int32) (p3 : Int32) (t_bs : List Int32) (tn1 : Nat) (t1 : Nat → Int32) (sz : Nat) (Q : (Nat → Int32) → Prop) (hwp : wp_J0_getBytes_840e7 p2 p3 t_bs tn1 t1 Q) : Met l yJ0_getBytes_840e7 ws_J0_getBytes_840e7 rm_J0_getBytes_840e7 (va_Pc [.ref q, .ref q1, .int p2, .int p3] (fun U => U.heap.size = sz ∧ va_P D vwCl (w_J0_getBytes_840e7 C q1 q t_bs tn1 t1) U.heap ∧ va_K D vwCl (tyL C) U ∧ va_D (fun _ => True) (w_J0_getBytes_840e7 C q1 q t_bs tn1 t1) ∧ TX (va_A (w_J0_getBytes_840e7 C q1 q t_bs tn1 t1) sz) U U.heap ∧ StrC t_bs q (va_A (w_J0_getBytes_840e7 C q1 q t_bs tn1 t1) sz) U U.heap)) (q_J0_getBytes_840e7 D C q1 q t_bs tn1 Q (va_A (w_J0_getBytes_840e7 C q1 q t_bs tn1 t1) sz)) 0 0 (va_A (w_J0_getBytes_840e7 C q1 q t_bs tn1 t1) sz) := by
  refine Met.ofW (cc := cJ0_getBytes_840e7) (maxL := 4) (ret := none) (by decide) rfl ?_
  intro p e s m args below meth c s₁ B hml hv
  obtain ⟨rfl, hsz, hP, hK, hD0, hT, hs_q⟩ := hv
  have hx := B.exec
  have hb := B.bytes
  have hr := B.returns
  have hts : ∀ w ∈ WALL, w.before _ s = true := fun w h => atoms_spec (ws := ws_J0_getBytes_840e7) B.pre w (List.mem_cons_of_mem _ h)
  have hown : s.vm.findClass RJ0 = some m.cls := findClass_of_methodNamed B.named
  have hlocks := B.notSynchronized
  subst hsz
  have hD := hD0.self (sz := s.heap.size)
  generalize hAe : va_A (w_J0_getBytes_840e7 C q1 q t_bs tn1 t1) s.heap.size = A at hD ⊢ hT hs_q
  have hA : ∀ q : Nat, s.heap.size ≤ q → A q := fun q h => by rw [← hAe]; exact Or.inr h
  have hS : va_S A s.heap s.heap [] := va_S.rf
  have hl := lv_entry ([.ref q, .ref q1, .int p2, .int p3]) (n := 4) (Nat.le_of_ble_eq_true rfl)
  rw [lg_entry_eq]
  generalize (lg_sl ([.ref q, .ref q1, .int p2, .int p3]) ++ List.replicate (4 - (lg_sl ([.ref q, .ref q1, .int p2, .int p3])).length) Slot.unset).toArray = ls at hl ⊢
  have hl : lv_has ls 4 [(0, .ref q), (1, .ref q1), (2, .int p2), (3, .int p3)] := hl
  unfold wp_J0_getBytes_840e7 at hwp
  obtain ⟨H, hH⟩ : ∃ H, H = s.heap := ⟨_, rfl⟩
  obtain ⟨locs, hlo⟩ : ∃ z : List Loc, z = [] := ⟨_, rfl⟩
  have hP : va_P D vwCl [(q1, .inl (C 1, tn1, .inl t1))] H := by rw [hH]; exact hP
  have hD : va_D A [(q1, .inl (C 1, tn1, .inl t1))] := hD
  have hS : va_S A s.heap H locs := by rw [hH, hlo]; exact hS
  suffices K : W p l e (headSpec ws_J0_getBytes_840e7 rm_J0_getBytes_840e7).room s m ([.ref q, .ref q1, .int p2, .int p3] : List Value).toArray below meth c H locs 0 0 (MQ below (q_J0_getBytes_840e7 D C q1 q t_bs tn1 Q A) ([.ref q, .ref q1, .int p2, .int p3] : List Value).toArray s 0 0 A) (F0 m 0 ls []) from by rw [hH, hlo] at K; exact K
  refine lv_aload_n hx hb dJ0_getBytes_840e7_0 rfl (lv_at hl 0 rfl) ?_
  have hPc := hP.sub (ws' := []) [] rfl
  have hDc := hD.sub (ws' := []) [] (by decide) rfl
  have hFc := va_free (wc := []) hD hS hA [] rfl
  refine va_calli (va_runV (As := []) (rest := []) ⟨hx, hb, hml, hown, hts⟩ (met_J0_coder_7d493 l hst D C q t_bs H.size (fun r => r = (0 : Int32)) rfl) (cwV 0 hts gc_J0_335 rfl rfl rfl (by decide +kernel) ⟨Nat.le_of_ble_eq_true rfl, Nat.le_of_ble_eq_true rfl⟩) ⟨fun a U g mk q => by obtain ⟨q0, q1, qP, qK, qD, qT, qS_q⟩ := q; exact ⟨q0, q1, qP, va_K.moved (u := U) (U := U.calling g mk a) (Vm.Alike.refl U.vm) qK, qD, qT.mv (U := U.calling g mk a) (State.WarmedH.refl U), qS_q.moved (U := U.calling g mk a) (Vm.Alike.refl U.vm)⟩, hs_q.recv hS, fun U hU hW => ⟨rfl, by rw [hU], by rw [hU]; exact hPc, va_K.moved hW.alike hK, hDc.weaken (fun _ _ _ _ => trivial), hT.call hS hFc hU hW, hs_q.call hS hFc hU hW⟩⟩ rfl rfl hl.1 rfl (lv_room (Nat.le_of_ble_eq_true rfl)) dJ0_getBytes_840e7_1 ⟨Nat.zero_le _, Nat.zero_le _⟩) hS (fun q _ h => hFc q h) hFc (fun r1 u t H1 locs ht hvm hwc hB hz1 hk1 hS => ?_)
  obtain rfl := hwc
  obtain ⟨hP1, -, hD1⟩ := hB
  rw [ht] at hP1
  obtain ⟨hP, hD⟩ := va_join (wr := [(q1, .inl (C 1, tn1, .inl t1))]) (w1 := []) hP hD [] [0] rfl rfl (by decide) (by decide) hk1 hFc hP1 hD1
  generalize H1 = H at hP hS ⊢
  have hP : va_P D vwCl [(q1, .inl (C 1, tn1, .inl t1))] H := hP
  have hD : va_D A [(q1, .inl (C 1, tn1, .inl t1))] := hD
  refine lv_iload_n hx hb dJ0_getBytes_840e7_4 rfl (lv_at hl 3 rfl) ?_
  refine lv_icmp_ne (tgt := 28) hx hb dJ0_getBytes_840e7_5 (by decide) (fun c5 => ?_) (fun c5 => ?_)
  · have hwp := hwp.1 c5
    exact False.elim hwp
  · have hwp := hwp.2 c5
    refine lv_aload_n hx hb dJ0_getBytes_840e7_8 rfl (lv_at hl 0 rfl) ?_
    obtain ⟨q_v9, ho_q_v9, hc_q_v9, hv_q_v9, ht_q_v9⟩ := id hs_q
    refine vk_getf hx hb hv_q_v9 hS hown (hts (.fieldLink RJ0 9 "java/lang/String" "value" "[B") wd_810) (fun _ h9 => h9) dJ0_getBytes_840e7_9 ?_
    refine lv_iconst (v := 0) hx hb dJ0_getBytes_840e7_12 (by decide) ?_
    refine lv_aload_n hx hb dJ0_getBytes_840e7_13 rfl (lv_at hl 1 rfl) ?_
    refine lv_iload_n hx hb dJ0_getBytes_840e7_14 rfl (lv_at hl 2 rfl) ?_
    refine lv_iload_n hx hb dJ0_getBytes_840e7_15 rfl (lv_at hl 3 rfl) ?_
    refine lv_ishl hx hb dJ0_getBytes_840e7_16 ?_
    refine lv_aload_n hx hb dJ0_getBytes_840e7_17 rfl (lv_at hl 0 rfl) ?_
    obtain ⟨q_v18, ho_q_v18, hc_q_v18, hv_q_v18, ht_q_v18⟩ := id hs_q
    refine vk_getf hx hb hv_q_v18 hS hown (hts (.fieldLink RJ0 9 "java/lang/String" "value" "[B") wd_810) (fun _ h9 => h9) dJ0_getBytes_840e7_18 ?_
    refine va_tlen (v := Int32.ofNat t_bs.length) hx hb ht_q_v18 hS rfl dJ0_getBytes_840e7_21 ?_
    obtain ⟨⟨g1, g2, g3, g4, g5, g6⟩, hwp⟩ := hwp
    refine vk_copyt (D := D) (own := RJ0) (index := 212) (f := (fun j => t_bs.getD j 0)) hx hb (hml.trans hl.1.symm) hown (hts (.methodLink RJ0 212 arraycopyName) wd_711) (hts (.native arraycopyName) wd_557) (hts (.static arraycopyName) wd_556) (hts (.initialized "java/lang/System") wd_53) hK hP hD hS ht_q_v9 0 1 rfl rfl g1 g2 g3 g4 g5 g6 (Nat.le_of_ble_eq_true rfl) (by decide) dJ0_getBytes_840e7_22 (fun H locs hP hD hS => ?_)
    have hP : va_P D vwCl [(q1, .inl (C 1, tn1, .inl (va_cpy (fun j => t_bs.getD j 0) t1 (0 : Int32).toNatClampNeg (p2 <<< (p3 &&& 31)).toNatClampNeg (Int32.ofNat t_bs.length).toNatClampNeg)))] H := hP
    have hD : va_D A [(q1, .inl (C 1, tn1, .inl (va_cpy (fun j => t_bs.getD j 0) t1 (0 : Int32).toNatClampNeg (p2 <<< (p3 &&& 31)).toNatClampNeg (Int32.ofNat t_bs.length).toNatClampNeg)))] := hD
    refine lv_goto (tgt := 43) hx hb dJ0_getBytes_840e7_25 (by decide) ?_
    have hP9 := hP.sub (ws' := [(q1, .inl (C 1, tn1, .inl (va_cpy (fun j => t_bs.getD j 0) t1 (0 : Int32).toNatClampNeg (p2 <<< (p3 &&& 31)).toNatClampNeg (Int32.ofNat t_bs.length).toNatClampNeg)))]) [0] rfl
    have hD9 := hD.sub (ws' := [(q1, .inl (C 1, tn1, .inl (va_cpy (fun j => t_bs.getD j 0) t1 (0 : Int32).toNatClampNeg (p2 <<< (p3 &&& 31)).toNatClampNeg (Int32.ofNat t_bs.length).toNatClampNeg)))]) [0] (by decide) rfl
    exact W.vret hx hb hr (fun t ht hW => ⟨⟨(va_cpy (fun j => t_bs.getD j 0) t1 (0 : Int32).toNatClampNeg (p2 <<< (p3 &&& 31)).toNatClampNeg (Int32.ofNat t_bs.length).toNatClampNeg), rfl, hwp, by rw [ht]; exact hP9, va_K.moved hW.alike hK, hD9⟩, hS.F ht⟩) hS.2.2 dJ0_getBytes_840e7_43

abbrev ws_J5_inflateIfNeededFor_a7421 : List Cond := .code yJ5_inflateIfNeededFor_a7421 cJ5_inflateIfNeededFor_a7421 2 none :: WALL
theorem gc_J5_40 : GoodIn WALL (wsV RJ5 40 RJ0 yJ0_coder_7d493 ws_J0_coder_7d493) := gc_v wd_591 wd_584 wd_585 wd_48 wd_586
abbrev rm_J5_inflateIfNeededFor_a7421 : Room := { frames := 1, cells := 0, slots := 0, locals := 20 }
abbrev w_J5_inflateIfNeededFor_a7421 (C : Nat → ClassId) (q : Nat) (q1 : Nat) (t1_bs : List Int32) (tp : Nat) (tn : Nat) (tf : Nat → Int32) (tc : Int32) (tl : Int32) : va_W := [(q, .inr (12, [.ref tp, .int 0, .int tl, .int tc])), (tp, .inl (C 1, tn, .inl tf))]
abbrev q_J5_inflateIfNeededFor_a7421 (D : va_G) (C : Nat → ClassId) (q : Nat) (q1 : Nat) (t1_bs : List Int32) (tp : Nat) (tn : Nat) (tf : Nat → Int32) (tc : Int32) (tl : Int32) (Q : Prop) (A : Nat → Prop) : Array Value → State → Outcome → State → Prop := va_Qv (fun (u : Unit) => Q) (fun (u : Unit) (t : State) => va_P D vwCl (w_J5_inflateIfNeededFor_a7421 C q q1 t1_bs tp tn tf tc tl) t.heap ∧ va_K D vwCl (tyL C) t ∧ va_D A (w_J5_inflateIfNeededFor_a7421 C q q1 t1_bs tp tn tf tc tl)) A
set_option maxHeartbeats 4000000 in
set_option maxRecDepth 100000 in
theorem met_J5_inflateIfNeededFor_a7421 (l : Launch) (hst : l.stackTraces = false) (D : va_G) (C : Nat → ClassId) (q : Nat) (q1 : Nat) (t1_bs : List Int32) (tp : Nat) (tn : Nat) (tf : Nat → Int32) (tc : Int32) (tl : Int32) (sz : Nat) (Q : Prop) (hwp : wp_J5_inflateIfNeededFor_a7421 t1_bs tp tn tf tc tl Q) : Met l yJ5_inflateIfNeededFor_a7421 ws_J5_inflateIfNeededFor_a7421 rm_J5_inflateIfNeededFor_a7421 (va_Pc [.ref q, .ref q1] (fun U => U.heap.size = sz ∧ va_P D vwCl (w_J5_inflateIfNeededFor_a7421 C q q1 t1_bs tp tn tf tc tl) U.heap ∧ va_K D vwCl (tyL C) U ∧ va_D (fun _ => True) (w_J5_inflateIfNeededFor_a7421 C q q1 t1_bs tp tn tf tc tl) ∧ TX (va_A (w_J5_inflateIfNeededFor_a7421 C q q1 t1_bs tp tn tf tc tl) sz) U U.heap ∧ StrC t1_bs q1 (va_A (w_J5_inflateIfNeededFor_a7421 C q q1 t1_bs tp tn tf tc tl) sz) U U.heap)) (q_J5_inflateIfNeededFor_a7421 D C q q1 t1_bs tp tn tf tc tl Q (va_A (w_J5_inflateIfNeededFor_a7421 C q q1 t1_bs tp tn tf tc tl) sz)) 0 0 (va_A (w_J5_inflateIfNeededFor_a7421 C q q1 t1_bs tp tn tf tc tl) sz) := by
  refine Met.ofW (cc := cJ5_inflateIfNeededFor_a7421) (maxL := 2) (ret := none) (by decide) rfl ?_
  intro p e s m args below meth c s₁ B hml hv
  obtain ⟨rfl, hsz, hP, hK, hD0, hT, hs_q1⟩ := hv
  have hx := B.exec
  have hb := B.bytes
  have hr := B.returns
  have hts : ∀ w ∈ WALL, w.before _ s = true := fun w h => atoms_spec (ws := ws_J5_inflateIfNeededFor_a7421) B.pre w (List.mem_cons_of_mem _ h)
  have hown : s.vm.findClass RJ5 = some m.cls := findClass_of_methodNamed B.named
  have hlocks := B.notSynchronized
  subst hsz
  have hD := hD0.self (sz := s.heap.size)
  generalize hAe : va_A (w_J5_inflateIfNeededFor_a7421 C q q1 t1_bs tp tn tf tc tl) s.heap.size = A at hD ⊢ hT hs_q1
  have hA : ∀ q : Nat, s.heap.size ≤ q → A q := fun q h => by rw [← hAe]; exact Or.inr h
  have hS : va_S A s.heap s.heap [] := va_S.rf
  have hl := lv_entry ([.ref q, .ref q1]) (n := 2) (Nat.le_of_ble_eq_true rfl)
  rw [lg_entry_eq]
  generalize (lg_sl ([.ref q, .ref q1]) ++ List.replicate (2 - (lg_sl ([.ref q, .ref q1])).length) Slot.unset).toArray = ls at hl ⊢
  have hl : lv_has ls 2 [(0, .ref q), (1, .ref q1)] := hl
  unfold wp_J5_inflateIfNeededFor_a7421 at hwp
  obtain ⟨H, hH⟩ : ∃ H, H = s.heap := ⟨_, rfl⟩
  obtain ⟨locs, hlo⟩ : ∃ z : List Loc, z = [] := ⟨_, rfl⟩
  have hP : va_P D vwCl [(q, .inr (12, [.ref tp, .int 0, .int tl, .int tc])), (tp, .inl (C 1, tn, .inl tf))] H := by rw [hH]; exact hP
  have hD : va_D A [(q, .inr (12, [.ref tp, .int 0, .int tl, .int tc])), (tp, .inl (C 1, tn, .inl tf))] := hD
  have hS : va_S A s.heap H locs := by rw [hH, hlo]; exact hS
  suffices K : W p l e (headSpec ws_J5_inflateIfNeededFor_a7421 rm_J5_inflateIfNeededFor_a7421).room s m ([.ref q, .ref q1] : List Value).toArray below meth c H locs 0 0 (MQ below (q_J5_inflateIfNeededFor_a7421 D C q q1 t1_bs tp tn tf tc tl Q A) ([.ref q, .ref q1] : List Value).toArray s 0 0 A) (F0 m 0 ls []) from by rw [hH, hlo] at K; exact K
  refine va_gets hx hb hT.2.2.2.2.2.2.1 hS hown (hts (.fieldLink RJ5 18 "java/lang/String" "COMPACT_STRINGS" "Z") wd_653) (fun _ h9 => h9) dJ5_inflateIfNeededFor_a7421_0 ?_
  refine lv_if_eq (tgt := 21) hx hb dJ5_inflateIfNeededFor_a7421_3 (by decide) (fun c3 => ?_) (fun c3 => ?_)
  · exact absurd c3 (by decide)
  · refine lv_aload_n hx hb dJ5_inflateIfNeededFor_a7421_6 rfl (lv_at hl 0 rfl) ?_
    refine va_get (D := D) (ci := 12) (v := .int 0) (C := RJ4) (T := TJ4) (N := 4) hx hb hts iwJ4 hown hK hP 0 rfl rfl 1 (by decide) (hts (.fieldLink RJ5 22 "java/lang/AbstractStringBuilder" "coder" "B") wd_714) (fun _ h9 => h9) rfl dJ5_inflateIfNeededFor_a7421_7 ?_
    refine lv_aload_n hx hb dJ5_inflateIfNeededFor_a7421_10 rfl (lv_at hl 1 rfl) ?_
    have hPc := hP.sub (ws' := []) [] rfl
    have hDc := hD.sub (ws' := []) [] (by decide) rfl
    have hFc := va_free (wc := []) hD hS hA [] rfl
    refine va_calli (va_runV (As := []) (rest := [.int 0]) ⟨hx, hb, hml, hown, hts⟩ (met_J0_coder_7d493 l hst D C q1 t1_bs H.size (fun r => r = (0 : Int32)) rfl) (cwV 0 hts gc_J5_40 rfl rfl rfl (by decide +kernel) ⟨Nat.le_of_ble_eq_true rfl, Nat.le_of_ble_eq_true rfl⟩) ⟨fun a U g mk q => by obtain ⟨q0, q1, qP, qK, qD, qT, qS_q⟩ := q; exact ⟨q0, q1, qP, va_K.moved (u := U) (U := U.calling g mk a) (Vm.Alike.refl U.vm) qK, qD, qT.mv (U := U.calling g mk a) (State.WarmedH.refl U), qS_q.moved (U := U.calling g mk a) (Vm.Alike.refl U.vm)⟩, hs_q1.recv hS, fun U hU hW => ⟨rfl, by rw [hU], by rw [hU]; exact hPc, va_K.moved hW.alike hK, hDc.weaken (fun _ _ _ _ => trivial), hT.call hS hFc hU hW, hs_q1.call hS hFc hU hW⟩⟩ rfl rfl hl.1 rfl (lv_room (Nat.le_of_ble_eq_true rfl)) dJ5_inflateIfNeededFor_a7421_11 ⟨Nat.le_of_ble_eq_true rfl, Nat.le_of_ble_eq_true rfl⟩) hS (fun q _ h => hFc q h) hFc (fun r11 u t H1 locs ht hvm hwc hB hz1 hk1 hS => ?_)
    obtain rfl := hwc
    obtain ⟨hP1, -, hD1⟩ := hB
    rw [ht] at hP1
    obtain ⟨hP, hD⟩ := va_join (wr := [(q, .inr (12, [.ref tp, .int 0, .int tl, .int tc])), (tp, .inl (C 1, tn, .inl tf))]) (w1 := []) hP hD [] [0, 1] rfl rfl (by decide) (by decide) hk1 hFc hP1 hD1
    generalize H1 = H at hP hS ⊢
    have hP : va_P D vwCl [(q, .inr (12, [.ref tp, .int 0, .int tl, .int tc])), (tp, .inl (C 1, tn, .inl tf))] H := hP
    have hD : va_D A [(q, .inr (12, [.ref tp, .int 0, .int tl, .int tc])), (tp, .inl (C 1, tn, .inl tf))] := hD
    refine lv_icmp_eq (tgt := 21) hx hb dJ5_inflateIfNeededFor_a7421_14 (by decide) (fun c14 => ?_) (fun c14 => ?_)
    · have hP9 := hP.sub (ws' := [(q, .inr (12, [.ref tp, .int 0, .int tl, .int tc])), (tp, .inl (C 1, tn, .inl tf))]) [0, 1] rfl
      have hD9 := hD.sub (ws' := [(q, .inr (12, [.ref tp, .int 0, .int tl, .int tc])), (tp, .inl (C 1, tn, .inl tf))]) [0, 1] (by decide) rfl
      exact W.vret hx hb hr (fun t ht hW => ⟨⟨(), rfl, hwp, by rw [ht]; exact hP9, va_K.moved hW.alike hK, hD9⟩, hS.F ht⟩) hS.2.2 dJ5_inflateIfNeededFor_a7421_21
    · exact absurd c14 (by decide)

abbrev ws_J5_putStringAt_47b60 : List Cond := .code yJ5_putStringAt_47b60 cJ5_putStringAt_47b60 3 none :: WALL
theorem gc_J5_397 : GoodIn (.selects RJ4 yJ5_inflateIfNeededFor_a7421 yJ5_inflateIfNeededFor_a7421 :: WALL) (va_wsU RJ5 397 RJ4 "java/lang/AbstractStringBuilder" yJ5_inflateIfNeededFor_a7421 yJ5_inflateIfNeededFor_a7421 ws_J5_inflateIfNeededFor_a7421) := gc_up (by rfl) wx_684_0 wd_1226 wd_686 wd_46 wd_687
theorem gc_J5_399 : GoodIn WALL (wsV RJ5 399 RJ0 yJ0_getBytes_840e7 ws_J0_getBytes_840e7) := gc_v wd_707 wd_708 wd_709 wd_48 wd_710
abbrev rm_J5_putStringAt_47b60 : Room := { frames := 2, cells := 0, slots := 0, locals := 87 }
abbrev w_J5_putStringAt_47b60 (C : Nat → ClassId) (q : Nat) (q2 : Nat) (t2_bs : List Int32) (tp : Nat) (tn : Nat) (tf : Nat → Int32) (tc : Int32) (tl : Int32) : va_W := [(q, .inr (12, [.ref tp, .int 0, .int tl, .int tc])), (tp, .inl (C 1, tn, .inl tf))]
abbrev q_J5_putStringAt_47b60 (D : va_G) (C : Nat → ClassId) (q : Nat) (q2 : Nat) (t2_bs : List Int32) (tp : Nat) (tn : Nat) (tc : Int32) (tl : Int32) (Q : (Nat → Int32) → Prop) (A : Nat → Prop) : Array Value → State → Outcome → State → Prop := va_Qv (fun (u : (Nat → Int32)) => Q u) (fun (u : (Nat → Int32)) (t : State) => va_P D vwCl (w_J5_putStringAt_47b60 C q q2 t2_bs tp tn u tc tl) t.heap ∧ va_K D vwCl (tyL C) t ∧ va_D A (w_J5_putStringAt_47b60 C q q2 t2_bs tp tn u tc tl)) A
set_option maxHeartbeats 4000000 in
set_option maxRecDepth 100000 in
theorem met_J5_putStringAt_47b60 (l : Launch) (hst : l.stackTraces = false) (D : va_G) (C : Nat → ClassId) (q : Nat) (q2 : Nat) (p1 : Int32) (t2_bs : List Int32) (tp : Nat) (tn : Nat) (tf : Nat → Int32) (tc : Int32) (tl : Int32) (sz : Nat) (Q : (Nat → Int32) → Prop) (hwp : wp_J5_putStringAt_47b60 p1 t2_bs tp tn tf tc tl Q) : Met l yJ5_putStringAt_47b60 ws_J5_putStringAt_47b60 rm_J5_putStringAt_47b60 (va_Pc [.ref q, .int p1, .ref q2] (fun U => U.heap.size = sz ∧ va_P D vwCl (w_J5_putStringAt_47b60 C q q2 t2_bs tp tn tf tc tl) U.heap ∧ va_K D vwCl (tyL C) U ∧ va_D (fun _ => True) (w_J5_putStringAt_47b60 C q q2 t2_bs tp tn tf tc tl) ∧ TX (va_A (w_J5_putStringAt_47b60 C q q2 t2_bs tp tn tf tc tl) sz) U U.heap ∧ StrC t2_bs q2 (va_A (w_J5_putStringAt_47b60 C q q2 t2_bs tp tn tf tc tl) sz) U U.heap)) (q_J5_putStringAt_47b60 D C q q2 t2_bs tp tn tc tl Q (va_A (w_J5_putStringAt_47b60 C q q2 t2_bs tp tn tf tc tl) sz)) 0 0 (va_A (w_J5_putStringAt_47b60 C q q2 t2_bs tp tn tf tc tl) sz) := by
  refine Met.ofW (cc := cJ5_putStringAt_47b60) (maxL := 3) (ret := none) (by decide) rfl ?_
  intro p e s m args below meth c s₁ B hml hv
  obtain ⟨rfl, hsz, hP, hK, hD0, hT, hs_q2⟩ := hv
  have hx := B.exec
  have hb := B.bytes
  have hr := B.returns
  have hts : ∀ w ∈ WALL, w.before _ s = true := fun w h => atoms_spec (ws := ws_J5_putStringAt_47b60) B.pre w (List.mem_cons_of_mem _ h)
  have hown : s.vm.findClass RJ5 = some m.cls := findClass_of_methodNamed B.named
  have hlocks := B.notSynchronized
  subst hsz
  have hD := hD0.self (sz := s.heap.size)
  generalize hAe : va_A (w_J5_putStringAt_47b60 C q q2 t2_bs tp tn tf tc tl) s.heap.size = A at hD ⊢ hT hs_q2
  have hA : ∀ q : Nat, s.heap.size ≤ q → A q := fun q h => by rw [← hAe]; exact Or.inr h
  have hS : va_S A s.heap s.heap [] := va_S.rf
  have hl := lv_entry ([.ref q, .int p1, .ref q2]) (n := 3) (Nat.le_of_ble_eq_true rfl)
  rw [lg_entry_eq]
  generalize (lg_sl ([.ref q, .int p1, .ref q2]) ++ List.replicate (3 - (lg_sl ([.ref q, .int p1, .ref q2])).length) Slot.unset).toArray = ls at hl ⊢
  have hl : lv_has ls 3 [(0, .ref q), (1, .int p1), (2, .ref q2)] := hl
  unfold wp_J5_putStringAt_47b60 at hwp
  obtain ⟨H, hH⟩ : ∃ H, H = s.heap := ⟨_, rfl⟩
  obtain ⟨locs, hlo⟩ : ∃ z : List Loc, z = [] := ⟨_, rfl⟩
  have hP : va_P D vwCl [(q, .inr (12, [.ref tp, .int 0, .int tl, .int tc])), (tp, .inl (C 1, tn, .inl tf))] H := by rw [hH]; exact hP
  have hD : va_D A [(q, .inr (12, [.ref tp, .int 0, .int tl, .int tc])), (tp, .inl (C 1, tn, .inl tf))] := hD
  have hS : va_S A s.heap H locs := by rw [hH, hlo]; exact hS
  suffices K : W p l e (headSpec ws_J5_putStringAt_47b60 rm_J5_putStringAt_47b60).room s m ([.ref q, .int p1, .ref q2] : List Value).toArray below meth c H locs 0 0 (MQ below (q_J5_putStringAt_47b60 D C q q2 t2_bs tp tn tc tl Q A) ([.ref q, .int p1, .ref q2] : List Value).toArray s 0 0 A) (F0 m 0 ls []) from by rw [hH, hlo] at K; exact K
  refine lv_aload_n hx hb dJ5_putStringAt_47b60_0 rfl (lv_at hl 0 rfl) ?_
  refine lv_aload_n hx hb dJ5_putStringAt_47b60_1 rfl (lv_at hl 2 rfl) ?_
  have hPc := hP.sub (ws' := [(q, .inr (12, [.ref tp, .int 0, .int tl, .int tc])), (tp, .inl (C 1, tn, .inl tf))]) [0, 1] rfl
  have hDc := hD.sub (ws' := [(q, .inr (12, [.ref tp, .int 0, .int tl, .int tc])), (tp, .inl (C 1, tn, .inl tf))]) [0, 1] (by decide) rfl
  have hFc := va_free (wc := [(q, .inr (12, [.ref tp, .int 0, .int tl, .int tc])), (tp, .inl (C 1, tn, .inl tf))]) hD hS hA [0, 1] rfl
  refine va_callv (va_runU (As := [.ref q2]) (rest := []) ⟨hx, hb, hml, hown, hts⟩ (met_J5_inflateIfNeededFor_a7421 l hst D C q q2 t2_bs tp tn tf tc tl H.size _ hwp) (va_cwU 1 (gc_upts (va_Nw.use (by rfl) (hT.2.2.2.2.2.2.2.2.2.2.1 yJ5_inflateIfNeededFor_a7421 (by decide +kernel))) hts) gc_J5_397 rfl rfl rfl rfl (by decide +kernel) ⟨Nat.le_of_ble_eq_true rfl, Nat.le_of_ble_eq_true rfl⟩) ⟨fun a U g mk q => by obtain ⟨q0, q1, qP, qK, qD, qT, qS_q1⟩ := q; exact ⟨q0, q1, qP, va_K.moved (u := U) (U := U.calling g mk a) (Vm.Alike.refl U.vm) qK, qD, qT.mv (U := U.calling g mk a) (State.WarmedH.refl U), qS_q1.moved (U := U.calling g mk a) (Vm.Alike.refl U.vm)⟩, va_recv hK hPc (ci := 12) (q0 := 0) rfl rfl, fun U hU hW => ⟨rfl, by rw [hU], by rw [hU]; exact hPc, va_K.moved hW.alike hK, hDc.weaken (fun _ _ _ _ => trivial), hT.call hS hFc hU hW, hs_q2.call hS hFc hU hW⟩⟩ rfl rfl hl.1 rfl (lv_room (Nat.le_of_ble_eq_true rfl)) dJ5_putStringAt_47b60_2 ⟨Nat.le_of_ble_eq_true rfl, Nat.le_of_ble_eq_true rfl⟩) hS (fun q _ h => hFc q h) hFc (fun u t H1 locs ht hvm hwp hB hz1 hk1 hS => ?_)
  obtain ⟨hP1, -, hD1⟩ := hB
  rw [ht] at hP1
  obtain ⟨hP, hD⟩ := va_join (wr := []) (w1 := [(q, .inr (12, [.ref tp, .int 0, .int tl, .int tc])), (tp, .inl (C 1, tn, .inl tf))]) hP hD [0, 1] [] rfl rfl (by decide) (by decide) hk1 hFc hP1 hD1
  generalize H1 = H at hP hS ⊢
  have hP : va_P D vwCl [(q, .inr (12, [.ref tp, .int 0, .int tl, .int tc])), (tp, .inl (C 1, tn, .inl tf))] H := hP
  have hD : va_D A [(q, .inr (12, [.ref tp, .int 0, .int tl, .int tc])), (tp, .inl (C 1, tn, .inl tf))] := hD
  refine lv_aload_n hx hb dJ5_putStringAt_47b60_5 rfl (lv_at hl 2 rfl) ?_
  refine lv_aload_n hx hb dJ5_putStringAt_47b60_6 rfl (lv_at hl 0 rfl) ?_
  refine va_get (D := D) (ci := 12) (v := .ref tp) (C := RJ4) (T := TJ4) (N := 4) hx hb hts iwJ4 hown hK hP 0 rfl rfl 0 (by decide) (hts (.fieldLink RJ5 15 "java/lang/AbstractStringBuilder" "value" "[B") wd_713) (fun _ h9 => h9) rfl dJ5_putStringAt_47b60_7 ?_
  refine lv_iload_n hx hb dJ5_putStringAt_47b60_10 rfl (lv_at hl 1 rfl) ?_
  refine lv_aload_n hx hb dJ5_putStringAt_47b60_11 rfl (lv_at hl 0 rfl) ?_
  refine va_get (D := D) (ci := 12) (v := .int 0) (C := RJ4) (T := TJ4) (N := 4) hx hb hts iwJ4 hown hK hP 0 rfl rfl 1 (by decide) (hts (.fieldLink RJ5 22 "java/lang/AbstractStringBuilder" "coder" "B") wd_714) (fun _ h9 => h9) rfl dJ5_putStringAt_47b60_12 ?_
  have hPc := hP.sub (ws' := [(tp, .inl (C 1, tn, .inl tf))]) [1] rfl
  have hDc := hD.sub (ws' := [(tp, .inl (C 1, tn, .inl tf))]) [1] (by decide) rfl
  have hFc := va_free (wc := [(tp, .inl (C 1, tn, .inl tf))]) hD hS hA [1] rfl
  refine va_callv (va_runV (As := [.ref tp, .int p1, .int 0]) (rest := []) ⟨hx, hb, hml, hown, hts⟩ (met_J0_getBytes_840e7 l hst D C tp q2 p1 0 t2_bs tn tf H.size _ hwp) (cwV 3 hts gc_J5_399 rfl rfl rfl (by decide +kernel) ⟨Nat.le_of_ble_eq_true rfl, Nat.le_of_ble_eq_true rfl⟩) ⟨fun a U g mk q => by obtain ⟨q0, q1, qP, qK, qD, qT, qS_q⟩ := q; exact ⟨q0, q1, qP, va_K.moved (u := U) (U := U.calling g mk a) (Vm.Alike.refl U.vm) qK, qD, qT.mv (U := U.calling g mk a) (State.WarmedH.refl U), qS_q.moved (U := U.calling g mk a) (Vm.Alike.refl U.vm)⟩, hs_q2.recv hS, fun U hU hW => ⟨rfl, by rw [hU], by rw [hU]; exact hPc, va_K.moved hW.alike hK, hDc.weaken (fun _ _ _ _ => trivial), hT.call hS hFc hU hW, hs_q2.call hS hFc hU hW⟩⟩ rfl rfl hl.1 rfl (lv_room (Nat.le_of_ble_eq_true rfl)) dJ5_putStringAt_47b60_15 ⟨Nat.le_of_ble_eq_true rfl, Nat.le_of_ble_eq_true rfl⟩) hS (fun q _ h => hFc q h) hFc (fun u t H1 locs ht hvm hwp hB hz1 hk1 hS => ?_)
  obtain ⟨u15_1, rfl⟩ : ∃ z, z = u := ⟨_, rfl⟩
  obtain ⟨hP1, -, hD1⟩ := hB
  rw [ht] at hP1
  obtain ⟨hP, hD⟩ := va_join (wr := [(q, .inr (12, [.ref tp, .int 0, .int tl, .int tc]))]) (w1 := [(tp, .inl (C 1, tn, .inl u15_1))]) hP hD [1] [0] rfl rfl (by decide) (by decide) hk1 hFc hP1 hD1
  generalize H1 = H at hP hS ⊢
  have hP : va_P D vwCl [(q, .inr (12, [.ref tp, .int 0, .int tl, .int tc])), (tp, .inl (C 1, tn, .inl u15_1))] H := hP
  have hD : va_D A [(q, .inr (12, [.ref tp, .int 0, .int tl, .int tc])), (tp, .inl (C 1, tn, .inl u15_1))] := hD
  have hP9 := hP.sub (ws' := [(q, .inr (12, [.ref tp, .int 0, .int tl, .int tc])), (tp, .inl (C 1, tn, .inl u15_1))]) [0, 1] rfl
  have hD9 := hD.sub (ws' := [(q, .inr (12, [.ref tp, .int 0, .int tl, .int tc])), (tp, .inl (C 1, tn, .inl u15_1))]) [0, 1] (by decide) rfl
  exact W.vret hx hb hr (fun t ht hW => ⟨⟨(u15_1), rfl, hwp, by rw [ht]; exact hP9, va_K.moved hW.alike hK, hD9⟩, hS.F ht⟩) hS.2.2 dJ5_putStringAt_47b60_18

abbrev ws_J5_append_cf1ce : List Cond := .code yJ5_append_cf1ce cJ5_append_cf1ce 3 (some (.object "java/lang/AbstractStringBuilder")) :: WALL
theorem gc_J5_32 : GoodIn WALL (wsV RJ5 32 RJ0 yJ0_length_8abf5 ws_J0_length_8abf5) := gc_v wd_579 wd_580 wd_581 wd_48 wd_582
theorem gc_J5_100 : GoodIn (.selects RJ4 yJ5_ensureCapacityInternal_d00df yJ5_ensureCapacityInternal_d00df :: WALL) (va_wsU RJ5 100 RJ4 "java/lang/AbstractStringBuilder" yJ5_ensureCapacityInternal_d00df yJ5_ensureCapacityInternal_d00df ws_J5_ensureCapacityInternal_d00df) := gc_up (by rfl) wx_616_0 wd_1223 wd_618 wd_46 wd_619
theorem gc_J5_208 : GoodIn (.selects RJ4 yJ5_putStringAt_47b60 yJ5_putStringAt_47b60 :: WALL) (va_wsU RJ5 208 RJ4 "java/lang/AbstractStringBuilder" yJ5_putStringAt_47b60 yJ5_putStringAt_47b60 ws_J5_putStringAt_47b60) := gc_up (by rfl) wx_680_0 wd_1225 wd_682 wd_46 wd_683
abbrev rm_J5_append_cf1ce (mc ms : Nat) : Room := { frames := 4, cells := mc, slots := ms, locals := 109 }
abbrev w_J5_append_cf1ce (C : Nat → ClassId) (q : Nat) (q1 : Nat) (t1_bs : List Int32) (tp : Nat) (tn : Nat) (tf : Nat → Int32) (tc : Int32) (tl : Int32) : va_W := [(q, .inr (12, [.ref tp, .int 0, .int tl, .int tc])), (tp, .inl (C 1, tn, .inl tf))]
abbrev q_J5_append_cf1ce (D : va_G) (C : Nat → ClassId) (q : Nat) (q1 : Nat) (t1_bs : List Int32) (tl : Int32) (Q : Nat → Nat → (Nat → Int32) → Int32 → Prop) (A : Nat → Prop) : Array Value → State → Outcome → State → Prop := va_Qr (fun (u : Nat × Nat × (Nat → Int32) × Int32) => Q u.1 u.2.1 u.2.2.1 u.2.2.2) (fun (u : Nat × Nat × (Nat → Int32) × Int32) (a : Nat) (t : State) => a = q ∧ va_P D vwCl (w_J5_append_cf1ce C q q1 t1_bs u.1 u.2.1 u.2.2.1 u.2.2.2 tl) t.heap ∧ va_K D vwCl (tyL C) t ∧ va_D A (w_J5_append_cf1ce C q q1 t1_bs u.1 u.2.1 u.2.2.1 u.2.2.2 tl)) A
set_option maxHeartbeats 4000000 in
set_option maxRecDepth 100000 in
theorem met_J5_append_cf1ce (l : Launch) (hst : l.stackTraces = false) (D : va_G) (C : Nat → ClassId) (q : Nat) (q1 : Nat) (t1_bs : List Int32) (tp : Nat) (tn : Nat) (tf : Nat → Int32) (tc : Int32) (tl : Int32) (mc : Nat) (ms : Nat) (sz : Nat) (Q : Nat → Nat → (Nat → Int32) → Int32 → Prop) (hwp : wp_J5_append_cf1ce t1_bs tp tn tf tc tl mc ms Q) : Met l yJ5_append_cf1ce ws_J5_append_cf1ce (rm_J5_append_cf1ce mc ms) (va_Pc [.ref q, .ref q1] (fun U => U.heap.size = sz ∧ va_P D vwCl (w_J5_append_cf1ce C q q1 t1_bs tp tn tf tc tl) U.heap ∧ va_K D vwCl (tyL C) U ∧ va_D (fun _ => True) (w_J5_append_cf1ce C q q1 t1_bs tp tn tf tc tl) ∧ TX (va_A (w_J5_append_cf1ce C q q1 t1_bs tp tn tf tc tl) sz) U U.heap ∧ StrC t1_bs q1 (va_A (w_J5_append_cf1ce C q q1 t1_bs tp tn tf tc tl) sz) U U.heap)) (q_J5_append_cf1ce D C q q1 t1_bs tl Q (va_A (w_J5_append_cf1ce C q q1 t1_bs tp tn tf tc tl) sz)) mc ms (va_A (w_J5_append_cf1ce C q q1 t1_bs tp tn tf tc tl) sz) := by
  refine Met.ofW (cc := cJ5_append_cf1ce) (maxL := 3) (ret := (some (.object "java/lang/AbstractStringBuilder"))) (by decide) rfl ?_
  intro p e s m args below meth c s₁ B hml hv
  obtain ⟨rfl, hsz, hP, hK, hD0, hT, hs_q1⟩ := hv
  have hx := B.exec
  have hb := B.bytes
  have hr := B.returns
  have hts : ∀ w ∈ WALL, w.before _ s = true := fun w h => atoms_spec (ws := ws_J5_append_cf1ce) B.pre w (List.mem_cons_of_mem _ h)
  have hown : s.vm.findClass RJ5 = some m.cls := findClass_of_methodNamed B.named
  have hlocks := B.notSynchronized
  subst hsz
  have hD := hD0.self (sz := s.heap.size)
  generalize hAe : va_A (w_J5_append_cf1ce C q q1 t1_bs tp tn tf tc tl) s.heap.size = A at hD ⊢ hT hs_q1
  have hA : ∀ q : Nat, s.heap.size ≤ q → A q := fun q h => by rw [← hAe]; exact Or.inr h
  have hS : va_S A s.heap s.heap [] := va_S.rf
  have hl := lv_entry ([.ref q, .ref q1]) (n := 3) (Nat.le_of_ble_eq_true rfl)
  rw [lg_entry_eq]
  generalize (lg_sl ([.ref q, .ref q1]) ++ List.replicate (3 - (lg_sl ([.ref q, .ref q1])).length) Slot.unset).toArray = ls at hl ⊢
  have hl : lv_has ls 3 [(0, .ref q), (1, .ref q1)] := hl
  unfold wp_J5_append_cf1ce at hwp
  obtain ⟨H, hH⟩ : ∃ H, H = s.heap := ⟨_, rfl⟩
  obtain ⟨locs, hlo⟩ : ∃ z : List Loc, z = [] := ⟨_, rfl⟩
  have hP : va_P D vwCl [(q, .inr (12, [.ref tp, .int 0, .int tl, .int tc])), (tp, .inl (C 1, tn, .inl tf))] H := by rw [hH]; exact hP
  have hD : va_D A [(q, .inr (12, [.ref tp, .int 0, .int tl, .int tc])), (tp, .inl (C 1, tn, .inl tf))] := hD
  have hS : va_S A s.heap H locs := by rw [hH, hlo]; exact hS
  suffices K : W p l e (headSpec ws_J5_append_cf1ce (rm_J5_append_cf1ce mc ms)).room s m ([.ref q, .ref q1] : List Value).toArray below meth c H locs 0 0 (MQ below (q_J5_append_cf1ce D C q q1 t1_bs tl Q A) ([.ref q, .ref q1] : List Value).toArray s mc ms A) (F0 m 0 ls []) from by rw [hH, hlo] at K; exact K
  refine lv_aload_n hx hb dJ5_append_cf1ce_0 rfl (lv_at hl 1 rfl) ?_
  refine lv_ifnonnull (tgt := 9) hx hb dJ5_append_cf1ce_1 (by decide) ?_
  refine lv_aload_n hx hb dJ5_append_cf1ce_9 rfl (lv_at hl 1 rfl) ?_
  have hPc := hP.sub (ws' := []) [] rfl
  have hDc := hD.sub (ws' := []) [] (by decide) rfl
  have hFc := va_free (wc := []) hD hS hA [] rfl
  obtain ⟨hbk, hwp⟩ := hwp
  refine va_calli (va_runV (As := []) (rest := []) ⟨hx, hb, hml, hown, hts⟩ (met_J0_length_8abf5 l hst D C q1 t1_bs H.size _ hwp) (cwV 0 hts gc_J5_32 rfl rfl rfl (by decide +kernel) ⟨Nat.le_of_ble_eq_true rfl, Nat.le_of_ble_eq_true rfl⟩) ⟨fun a U g mk q => by obtain ⟨q0, q1, qP, qK, qD, qT, qS_q⟩ := q; exact ⟨q0, q1, qP, va_K.moved (u := U) (U := U.calling g mk a) (Vm.Alike.refl U.vm) qK, qD, qT.mv (U := U.calling g mk a) (State.WarmedH.refl U), qS_q.moved (U := U.calling g mk a) (Vm.Alike.refl U.vm)⟩, hs_q1.recv hS, fun U hU hW => ⟨rfl, by rw [hU], by rw [hU]; exact hPc, va_K.moved hW.alike hK, hDc.weaken (fun _ _ _ _ => trivial), hT.call hS hFc hU hW, hs_q1.call hS hFc hU hW⟩⟩ rfl rfl hl.1 rfl (lv_room (Nat.le_of_ble_eq_true rfl)) dJ5_append_cf1ce_10 ⟨hbk.1, hbk.2⟩) hS (fun q _ h => hFc q h) hFc (fun r10 u t H1 locs ht hvm hwp hB hz1 hk1 hS => ?_)
  obtain ⟨hP1, -, hD1⟩ := hB
  rw [ht] at hP1
  obtain ⟨hP, hD⟩ := va_join (wr := [(q, .inr (12, [.ref tp, .int 0, .int tl, .int tc])), (tp, .inl (C 1, tn, .inl tf))]) (w1 := []) hP hD [] [0, 1] rfl rfl (by decide) (by decide) hk1 hFc hP1 hD1
  generalize H1 = H at hP hS ⊢
  have hP : va_P D vwCl [(q, .inr (12, [.ref tp, .int 0, .int tl, .int tc])), (tp, .inl (C 1, tn, .inl tf))] H := hP
  have hD : va_D A [(q, .inr (12, [.ref tp, .int 0, .int tl, .int tc])), (tp, .inl (C 1, tn, .inl tf))] := hD
  refine lv_istore_n (lv' := [(2, .int r10), (0, .ref q), (1, .ref q1)]) hx hb dJ5_append_cf1ce_13 rfl hl (by decide) rfl (fun ls hl => ?_)
  refine lv_aload_n hx hb dJ5_append_cf1ce_14 rfl (lv_at hl 1 rfl) ?_
  refine lv_aload_n hx hb dJ5_append_cf1ce_15 rfl (lv_at hl 1 rfl) ?_
  refine va_get (D := D) (ci := 12) (v := .int tc) (C := RJ4) (T := TJ4) (N := 4) hx hb hts iwJ4 hown hK hP 0 rfl rfl 3 (by decide) (hts (.fieldLink RJ5 79 "java/lang/AbstractStringBuilder" "count" "I") wd_716) (fun _ h9 => h9) rfl dJ5_append_cf1ce_16 ?_
  refine lv_iload_n hx hb dJ5_append_cf1ce_19 rfl (lv_at hl 0 rfl) ?_
  refine lv_iadd hx hb dJ5_append_cf1ce_20 ?_
  have hPc := hP.sub (ws' := [(q, .inr (12, [.ref tp, .int 0, .int tl, .int tc])), (tp, .inl (C 1, tn, .inl tf))]) [0, 1] rfl
  have hDc := hD.sub (ws' := [(q, .inr (12, [.ref tp, .int 0, .int tl, .int tc])), (tp, .inl (C 1, tn, .inl tf))]) [0, 1] (by decide) rfl
  have hFc := va_free (wc := [(q, .inr (12, [.ref tp, .int 0, .int tl, .int tc])), (tp, .inl (C 1, tn, .inl tf))]) hD hS hA [0, 1] rfl
  obtain ⟨mb21, sb21, hbk, hwp⟩ := hwp
  refine va_callv (va_runU (As := [.int (tc + r10)]) (rest := []) ⟨hx, hb, hml, hown, hts⟩ (met_J5_ensureCapacityInternal_d00df l hst D C q (tc + r10) tp tn tf tc tl mb21 sb21 H.size _ hwp) (va_cwU 1 (gc_upts (va_Nw.use (by rfl) (hT.2.2.2.2.2.2.2.2.2.2.1 yJ5_ensureCapacityInternal_d00df (by decide +kernel))) hts) gc_J5_100 rfl rfl rfl rfl (by decide +kernel) ⟨Nat.le_of_ble_eq_true rfl, Nat.le_of_ble_eq_true rfl⟩) ⟨fun a U g mk q => by obtain ⟨q0, q1, qP, qK, qD, qT⟩ := q; exact ⟨q0, q1, qP, va_K.moved (u := U) (U := U.calling g mk a) (Vm.Alike.refl U.vm) qK, qD, qT.mv (U := U.calling g mk a) (State.WarmedH.refl U)⟩, va_recv hK hPc (ci := 12) (q0 := 0) rfl rfl, fun U hU hW => ⟨rfl, by rw [hU], by rw [hU]; exact hPc, va_K.moved hW.alike hK, hDc.weaken (fun _ _ _ _ => trivial), hT.call hS hFc hU hW⟩⟩ rfl rfl hl.1 rfl (lv_room (Nat.le_of_ble_eq_true rfl)) dJ5_append_cf1ce_21 ⟨hbk.1, hbk.2⟩) hS (fun q _ h => hFc q h) hFc (fun u t H1 locs ht hvm hwp hB hz1 hk1 hS => ?_)
  obtain ⟨u21_1, u21_2, u21_3⟩ := u
  obtain ⟨hP1, -, hD1⟩ := hB
  rw [ht] at hP1
  obtain ⟨hP, hD⟩ := va_join (wr := []) (w1 := [(q, .inr (12, [.ref u21_1, .int 0, .int tl, .int tc])), (u21_1, .inl (C 1, u21_2, .inl u21_3))]) hP hD [0, 1] [] rfl rfl (by decide) (by decide) hk1 hFc hP1 hD1
  generalize H1 = H at hP hS ⊢
  have hP : va_P D vwCl [(q, .inr (12, [.ref u21_1, .int 0, .int tl, .int tc])), (u21_1, .inl (C 1, u21_2, .inl u21_3))] H := hP
  have hD : va_D A [(q, .inr (12, [.ref u21_1, .int 0, .int tl, .int tc])), (u21_1, .inl (C 1, u21_2, .inl u21_3))] := hD
  refine lv_aload_n hx hb dJ5_append_cf1ce_24 rfl (lv_at hl 1 rfl) ?_
  refine lv_aload_n hx hb dJ5_append_cf1ce_25 rfl (lv_at hl 1 rfl) ?_
  refine va_get (D := D) (ci := 12) (v := .int tc) (C := RJ4) (T := TJ4) (N := 4) hx hb hts iwJ4 hown hK hP 0 rfl rfl 3 (by decide) (hts (.fieldLink RJ5 79 "java/lang/AbstractStringBuilder" "count" "I") wd_716) (fun _ h9 => h9) rfl dJ5_append_cf1ce_26 ?_
  refine lv_aload_n hx hb dJ5_append_cf1ce_29 rfl (lv_at hl 2 rfl) ?_
  have hPc := hP.sub (ws' := [(q, .inr (12, [.ref u21_1, .int 0, .int tl, .int tc])), (u21_1, .inl (C 1, u21_2, .inl u21_3))]) [0, 1] rfl
  have hDc := hD.sub (ws' := [(q, .inr (12, [.ref u21_1, .int 0, .int tl, .int tc])), (u21_1, .inl (C 1, u21_2, .inl u21_3))]) [0, 1] (by decide) rfl
  have hFc := va_free (wc := [(q, .inr (12, [.ref u21_1, .int 0, .int tl, .int tc])), (u21_1, .inl (C 1, u21_2, .inl u21_3))]) hD hS hA [0, 1] rfl
  obtain ⟨hbk, hwp⟩ := hwp
  refine va_callv (va_runU (As := [.int tc, .ref q1]) (rest := []) ⟨hx, hb, hml, hown, hts⟩ (met_J5_putStringAt_47b60 l hst D C q q1 tc t1_bs u21_1 u21_2 u21_3 tc tl H.size _ hwp) (va_cwU 2 (gc_upts (va_Nw.use (by rfl) (hT.2.2.2.2.2.2.2.2.2.2.1 yJ5_putStringAt_47b60 (by decide +kernel))) hts) gc_J5_208 rfl rfl rfl rfl (by decide +kernel) ⟨Nat.le_of_ble_eq_true rfl, Nat.le_of_ble_eq_true rfl⟩) ⟨fun a U g mk q => by obtain ⟨q0, q1, qP, qK, qD, qT, qS_q2⟩ := q; exact ⟨q0, q1, qP, va_K.moved (u := U) (U := U.calling g mk a) (Vm.Alike.refl U.vm) qK, qD, qT.mv (U := U.calling g mk a) (State.WarmedH.refl U), qS_q2.moved (U := U.calling g mk a) (Vm.Alike.refl U.vm)⟩, va_recv hK hPc (ci := 12) (q0 := 0) rfl rfl, fun U hU hW => ⟨rfl, by rw [hU], by rw [hU]; exact hPc, va_K.moved hW.alike hK, hDc.weaken (fun _ _ _ _ => trivial), hT.call hS hFc hU hW, hs_q1.call hS hFc hU hW⟩⟩ rfl rfl hl.1 rfl (lv_room (Nat.le_of_ble_eq_true rfl)) dJ5_append_cf1ce_30 ⟨hbk.1, hbk.2⟩) hS (fun q _ h => hFc q h) hFc (fun u t H1 locs ht hvm hwp hB hz1 hk1 hS => ?_)
  obtain ⟨u30_4, rfl⟩ : ∃ z, z = u := ⟨_, rfl⟩
  obtain ⟨hP1, -, hD1⟩ := hB
  rw [ht] at hP1
  obtain ⟨hP, hD⟩ := va_join (wr := []) (w1 := [(q, .inr (12, [.ref u21_1, .int 0, .int tl, .int tc])), (u21_1, .inl (C 1, u21_2, .inl u30_4))]) hP hD [0, 1] [] rfl rfl (by decide) (by decide) hk1 hFc hP1 hD1
  generalize H1 = H at hP hS ⊢
  have hP : va_P D vwCl [(q, .inr (12, [.ref u21_1, .int 0, .int tl, .int tc])), (u21_1, .inl (C 1, u21_2, .inl u30_4))] H := hP
  have hD : va_D A [(q, .inr (12, [.ref u21_1, .int 0, .int tl, .int tc])), (u21_1, .inl (C 1, u21_2, .inl u30_4))] := hD
  refine lv_aload_n hx hb dJ5_append_cf1ce_33 rfl (lv_at hl 1 rfl) ?_
  refine lv_dup hx hb dJ5_append_cf1ce_34 rfl ?_
  refine va_get (D := D) (ci := 12) (v := .int tc) (C := RJ4) (T := TJ4) (N := 4) hx hb hts iwJ4 hown hK hP 0 rfl rfl 3 (by decide) (hts (.fieldLink RJ5 79 "java/lang/AbstractStringBuilder" "count" "I") wd_716) (fun _ h9 => h9) rfl dJ5_append_cf1ce_35 ?_
  refine lv_iload_n hx hb dJ5_append_cf1ce_38 rfl (lv_at hl 0 rfl) ?_
  refine lv_iadd hx hb dJ5_append_cf1ce_39 ?_
  refine va_put (D := D) (ci := 12) (v := .int (tc + r10)) (ty := .int) (C := RJ4) (T := TJ4) (N := 4) hx hb hts iwJ4 tyJ4 tyJ4_ok nmJ4 hown hK hP hD hS 0 rfl rfl 3 (by decide) (hts (.fieldLink RJ5 79 "java/lang/AbstractStringBuilder" "count" "I") wd_716) (fun _ h9 => h9) rfl (by decide +kernel) rfl rfl (Nat.le_of_ble_eq_true rfl) dJ5_append_cf1ce_40 (fun H locs hP hD hS => ?_)
  have hP : va_P D vwCl [(q, .inr (12, [.ref u21_1, .int 0, .int tl, .int (tc + r10)])), (u21_1, .inl (C 1, u21_2, .inl u30_4))] H := hP
  have hD : va_D A [(q, .inr (12, [.ref u21_1, .int 0, .int tl, .int (tc + r10)])), (u21_1, .inl (C 1, u21_2, .inl u30_4))] := hD
  refine lv_aload_n hx hb dJ5_append_cf1ce_43 rfl (lv_at hl 1 rfl) ?_
  obtain ⟨hbk, hwp⟩ := hwp
  have hP9 := hP.sub (ws' := [(q, .inr (12, [.ref u21_1, .int 0, .int tl, .int (tc + r10)])), (u21_1, .inl (C 1, u21_2, .inl u30_4))]) [0, 1] rfl
  have hD9 := hD.sub (ws' := [(q, .inr (12, [.ref u21_1, .int 0, .int tl, .int (tc + r10)])), (u21_1, .inl (C 1, u21_2, .inl u30_4))]) [0, 1] (by decide) rfl
  refine W.widen (k := mc) (n := ms) hbk.1 hbk.2 ?_
  exact W.aret (v := .ref q) (rt := (.object "java/lang/AbstractStringBuilder")) hx hb hr (Or.inl ⟨_, rfl⟩) (Or.inr ⟨_, rfl⟩) (fun t ht hW => ⟨⟨(u21_1, u21_2, u30_4, tc + r10), q, rfl, hwp, rfl, by rw [ht]; exact hP9, va_K.moved hW.alike hK, hD9⟩, hS.F ht⟩) hS.2.2 dJ5_append_cf1ce_44

abbrev ws_J4_append_15ec4 : List Cond := .code yJ4_append_15ec4 cJ4_append_15ec4 2 (some (.object "java/lang/StringBuilder")) :: WALL
theorem gc_J4_29 : GoodIn WALL (va_wsSU RJ4 29 yJ5_append_cf1ce ws_J5_append_cf1ce) := gc_su wd_609 wd_601 wd_610 wd_600 wd_46 wx_611_0
abbrev rm_J4_append_15ec4 (mc ms : Nat) : Room := { frames := 5, cells := mc, slots := ms, locals := 131 }
abbrev w_J4_append_15ec4 (C : Nat → ClassId) (q : Nat) (q1 : Nat) (t1_bs : List Int32) (tp : Nat) (tn : Nat) (tf : Nat → Int32) (tc : Int32) (tl : Int32) : va_W := [(q, .inr (12, [.ref tp, .int 0, .int tl, .int tc])), (tp, .inl (C 1, tn, .inl tf))]
abbrev q_J4_append_15ec4 (D : va_G) (C : Nat → ClassId) (q : Nat) (q1 : Nat) (t1_bs : List Int32) (tl : Int32) (Q : Nat → Nat → (Nat → Int32) → Int32 → Prop) (A : Nat → Prop) : Array Value → State → Outcome → State → Prop := va_Qr (fun (u : Nat × Nat × (Nat → Int32) × Int32) => Q u.1 u.2.1 u.2.2.1 u.2.2.2) (fun (u : Nat × Nat × (Nat → Int32) × Int32) (a : Nat) (t : State) => a = q ∧ va_P D vwCl (w_J4_append_15ec4 C q q1 t1_bs u.1 u.2.1 u.2.2.1 u.2.2.2 tl) t.heap ∧ va_K D vwCl (tyL C) t ∧ va_D A (w_J4_append_15ec4 C q q1 t1_bs u.1 u.2.1 u.2.2.1 u.2.2.2 tl)) A
set_option maxHeartbeats 4000000 in
set_option maxRecDepth 100000 in
theorem met_J4_append_15ec4 (l : Launch) (hst : l.stackTraces = false) (D : va_G) (C : Nat → ClassId) (q : Nat) (q1 : Nat) (t1_bs : List Int32) (tp : Nat) (tn : Nat) (tf : Nat → Int32) (tc : Int32) (tl : Int32) (mc : Nat) (ms : Nat) (sz : Nat) (Q : Nat → Nat → (Nat → Int32) → Int32 → Prop) (hwp : wp_J4_append_15ec4 t1_bs tp tn tf tc tl mc ms Q) : Met l yJ4_append_15ec4 ws_J4_append_15ec4 (rm_J4_append_15ec4 mc ms) (va_Pc [.ref q, .ref q1] (fun U => U.heap.size = sz ∧ va_P D vwCl (w_J4_append_15ec4 C q q1 t1_bs tp tn tf tc tl) U.heap ∧ va_K D vwCl (tyL C) U ∧ va_D (fun _ => True) (w_J4_append_15ec4 C q q1 t1_bs tp tn tf tc tl) ∧ TX (va_A (w_J4_append_15ec4 C q q1 t1_bs tp tn tf tc tl) sz) U U.heap ∧ StrC t1_bs q1 (va_A (w_J4_append_15ec4 C q q1 t1_bs tp tn tf tc tl) sz) U U.heap)) (q_J4_append_15ec4 D C q q1 t1_bs tl Q (va_A (w_J4_append_15ec4 C q q1 t1_bs tp tn tf tc tl) sz)) mc ms (va_A (w_J4_append_15ec4 C q q1 t1_bs tp tn tf tc tl) sz) := by
  refine Met.ofW (cc := cJ4_append_15ec4) (maxL := 2) (ret := (some (.object "java/lang/StringBuilder"))) (by decide) rfl ?_
  intro p e s m args below meth c s₁ B hml hv
  obtain ⟨rfl, hsz, hP, hK, hD0, hT, hs_q1⟩ := hv
  have hx := B.exec
  have hb := B.bytes
  have hr := B.returns
  have hts : ∀ w ∈ WALL, w.before _ s = true := fun w h => atoms_spec (ws := ws_J4_append_15ec4) B.pre w (List.mem_cons_of_mem _ h)
  have hown : s.vm.findClass RJ4 = some m.cls := findClass_of_methodNamed B.named
  have hlocks := B.notSynchronized
  subst hsz
  have hD := hD0.self (sz := s.heap.size)
  generalize hAe : va_A (w_J4_append_15ec4 C q q1 t1_bs tp tn tf tc tl) s.heap.size = A at hD ⊢ hT hs_q1
  have hA : ∀ q : Nat, s.heap.size ≤ q → A q := fun q h => by rw [← hAe]; exact Or.inr h
  have hS : va_S A s.heap s.heap [] := va_S.rf
  have hl := lv_entry ([.ref q, .ref q1]) (n := 2) (Nat.le_of_ble_eq_true rfl)
  rw [lg_entry_eq]
  generalize (lg_sl ([.ref q, .ref q1]) ++ List.replicate (2 - (lg_sl ([.ref q, .ref q1])).length) Slot.unset).toArray = ls at hl ⊢
  have hl : lv_has ls 2 [(0, .ref q), (1, .ref q1)] := hl
  unfold wp_J4_append_15ec4 at hwp
  obtain ⟨H, hH⟩ : ∃ H, H = s.heap := ⟨_, rfl⟩
  obtain ⟨locs, hlo⟩ : ∃ z : List Loc, z = [] := ⟨_, rfl⟩
  have hP : va_P D vwCl [(q, .inr (12, [.ref tp, .int 0, .int tl, .int tc])), (tp, .inl (C 1, tn, .inl tf))] H := by rw [hH]; exact hP
  have hD : va_D A [(q, .inr (12, [.ref tp, .int 0, .int tl, .int tc])), (tp, .inl (C 1, tn, .inl tf))] := hD
  have hS : va_S A s.heap H locs := by rw [hH, hlo]; exact hS
  suffices K : W p l e (headSpec ws_J4_append_15ec4 (rm_J4_append_15ec4 mc ms)).room s m ([.ref q, .ref q1] : List Value).toArray below meth c H locs 0 0 (MQ below (q_J4_append_15ec4 D C q q1 t1_bs tl Q A) ([.ref q, .ref q1] : List Value).toArray s mc ms A) (F0 m 0 ls []) from by rw [hH, hlo] at K; exact K
  refine lv_aload_n hx hb dJ4_append_15ec4_0 rfl (lv_at hl 0 rfl) ?_
  refine lv_aload_n hx hb dJ4_append_15ec4_1 rfl (lv_at hl 1 rfl) ?_
  have hPc := hP.sub (ws' := [(q, .inr (12, [.ref tp, .int 0, .int tl, .int tc])), (tp, .inl (C 1, tn, .inl tf))]) [0, 1] rfl
  have hDc := hD.sub (ws' := [(q, .inr (12, [.ref tp, .int 0, .int tl, .int tc])), (tp, .inl (C 1, tn, .inl tf))]) [0, 1] (by decide) rfl
  have hFc := va_free (wc := [(q, .inr (12, [.ref tp, .int 0, .int tl, .int tc])), (tp, .inl (C 1, tn, .inl tf))]) hD hS hA [0, 1] rfl
  obtain ⟨mb2, sb2, hbk, hwp⟩ := hwp
  refine va_callr (va_runSU (hK.1 12 _ rfl).2 (As := [.ref q1]) (rest := []) ⟨hx, hb, hml, hown, hts⟩ (met_J5_append_cf1ce l hst D C q q1 t1_bs tp tn tf tc tl mb2 sb2 H.size _ hwp) (va_cwSU 1 hts gc_J4_29 rfl rfl rfl (by decide +kernel) ⟨Nat.le_of_ble_eq_true rfl, Nat.le_of_ble_eq_true rfl⟩) ⟨fun a U g mk q => by obtain ⟨q0, q1, qP, qK, qD, qT, qS_q1⟩ := q; exact ⟨q0, q1, qP, va_K.moved (u := U) (U := U.calling g mk a) (Vm.Alike.refl U.vm) qK, qD, qT.mv (U := U.calling g mk a) (State.WarmedH.refl U), qS_q1.moved (U := U.calling g mk a) (Vm.Alike.refl U.vm)⟩, va_recv hK hPc (ci := 12) (q0 := 0) rfl rfl, fun U hU hW => ⟨rfl, by rw [hU], by rw [hU]; exact hPc, va_K.moved hW.alike hK, hDc.weaken (fun _ _ _ _ => trivial), hT.call hS hFc hU hW, hs_q1.call hS hFc hU hW⟩⟩ rfl rfl hl.1 rfl (lv_room (Nat.le_of_ble_eq_true rfl)) dJ4_append_15ec4_2 ⟨hbk.1, hbk.2⟩) hS (fun q _ h => hFc q h) hFc (fun u ra t H1 locs ht hvm hwp hB hz1 hk1 hS => ?_)
  obtain ⟨u2_1, u2_2, u2_3, u2_4⟩ := u
  obtain ⟨hra, hP1, -, hD1⟩ := hB
  have hra := hra.symm
  subst hra
  rw [ht] at hP1
  obtain ⟨hP, hD⟩ := va_join (wr := []) (w1 := [(q, .inr (12, [.ref u2_1, .int 0, .int tl, .int u2_4])), (u2_1, .inl (C 1, u2_2, .inl u2_3))]) hP hD [0, 1] [] rfl rfl (by decide) (by decide) hk1 hFc hP1 hD1
  generalize H1 = H at hP hS ⊢
  have hP : va_P D vwCl [(q, .inr (12, [.ref u2_1, .int 0, .int tl, .int u2_4])), (u2_1, .inl (C 1, u2_2, .inl u2_3))] H := hP
  have hD : va_D A [(q, .inr (12, [.ref u2_1, .int 0, .int tl, .int u2_4])), (u2_1, .inl (C 1, u2_2, .inl u2_3))] := hD
  refine lv_pop hx hb dJ4_append_15ec4_5 rfl ?_
  refine lv_aload_n hx hb dJ4_append_15ec4_6 rfl (lv_at hl 0 rfl) ?_
  obtain ⟨hbk, hwp⟩ := hwp
  have hP9 := hP.sub (ws' := [(q, .inr (12, [.ref u2_1, .int 0, .int tl, .int u2_4])), (u2_1, .inl (C 1, u2_2, .inl u2_3))]) [0, 1] rfl
  have hD9 := hD.sub (ws' := [(q, .inr (12, [.ref u2_1, .int 0, .int tl, .int u2_4])), (u2_1, .inl (C 1, u2_2, .inl u2_3))]) [0, 1] (by decide) rfl
  refine W.widen (k := mc) (n := ms) hbk.1 hbk.2 ?_
  exact W.aret (v := .ref q) (rt := (.object "java/lang/StringBuilder")) hx hb hr (Or.inl ⟨_, rfl⟩) (Or.inr ⟨_, rfl⟩) (fun t ht hW => ⟨⟨(u2_1, u2_2, u2_3, u2_4), q, rfl, hwp, rfl, by rw [ht]; exact hP9, va_K.moved hW.alike hK, hD9⟩, hS.F ht⟩) hS.2.2 dJ4_append_15ec4_7

abbrev ws_J4_append_cf1ce : List Cond := .code yJ4_append_cf1ce cJ4_append_cf1ce 2 (some (.object "java/lang/AbstractStringBuilder")) :: WALL
theorem gc_J4_23 : GoodIn WALL (wsV RJ4 23 RJ4 yJ4_append_15ec4 ws_J4_append_15ec4) := gc_v wd_605 wd_606 wd_607 wd_47 wx_608_0
abbrev rm_J4_append_cf1ce (mc ms : Nat) : Room := { frames := 6, cells := mc, slots := ms, locals := 152 }
abbrev w_J4_append_cf1ce (C : Nat → ClassId) (q : Nat) (q1 : Nat) (t1_bs : List Int32) (tp : Nat) (tn : Nat) (tf : Nat → Int32) (tc : Int32) (tl : Int32) : va_W := [(q, .inr (12, [.ref tp, .int 0, .int tl, .int tc])), (tp, .inl (C 1, tn, .inl tf))]
abbrev q_J4_append_cf1ce (D : va_G) (C : Nat → ClassId) (q : Nat) (q1 : Nat) (t1_bs : List Int32) (tl : Int32) (Q : Nat → Nat → (Nat → Int32) → Int32 → Prop) (A : Nat → Prop) : Array Value → State → Outcome → State → Prop := va_Qr (fun (u : Nat × Nat × (Nat → Int32) × Int32) => Q u.1 u.2.1 u.2.2.1 u.2.2.2) (fun (u : Nat × Nat × (Nat → Int32) × Int32) (a : Nat) (t : State) => a = q ∧ va_P D vwCl (w_J4_append_cf1ce C q q1 t1_bs u.1 u.2.1 u.2.2.1 u.2.2.2 tl) t.heap ∧ va_K D vwCl (tyL C) t ∧ va_D A (w_J4_append_cf1ce C q q1 t1_bs u.1 u.2.1 u.2.2.1 u.2.2.2 tl)) A
set_option maxHeartbeats 4000000 in
set_option maxRecDepth 100000 in
theorem met_J4_append_cf1ce (l : Launch) (hst : l.stackTraces = false) (D : va_G) (C : Nat → ClassId) (q : Nat) (q1 : Nat) (t1_bs : List Int32) (tp : Nat) (tn : Nat) (tf : Nat → Int32) (tc : Int32) (tl : Int32) (mc : Nat) (ms : Nat) (sz : Nat) (Q : Nat → Nat → (Nat → Int32) → Int32 → Prop) (hwp : wp_J4_append_cf1ce t1_bs tp tn tf tc tl mc ms Q) : Met l yJ4_append_cf1ce ws_J4_append_cf1ce (rm_J4_append_cf1ce mc ms) (va_Pc [.ref q, .ref q1] (fun U => U.heap.size = sz ∧ va_P D vwCl (w_J4_append_cf1ce C q q1 t1_bs tp tn tf tc tl) U.heap ∧ va_K D vwCl (tyL C) U ∧ va_D (fun _ => True) (w_J4_append_cf1ce C q q1 t1_bs tp tn tf tc tl) ∧ TX (va_A (w_J4_append_cf1ce C q q1 t1_bs tp tn tf tc tl) sz) U U.heap ∧ StrC t1_bs q1 (va_A (w_J4_append_cf1ce C q q1 t1_bs tp tn tf tc tl) sz) U U.heap)) (q_J4_append_cf1ce D C q q1 t1_bs tl Q (va_A (w_J4_append_cf1ce C q q1 t1_bs tp tn tf tc tl) sz)) mc ms (va_A (w_J4_append_cf1ce C q q1 t1_bs tp tn tf tc tl) sz) := by
  refine Met.ofW (cc := cJ4_append_cf1ce) (maxL := 2) (ret := (some (.object "java/lang/AbstractStringBuilder"))) (by decide) rfl ?_
  intro p e s m args below meth c s₁ B hml hv
  obtain ⟨rfl, hsz, hP, hK, hD0, hT, hs_q1⟩ := hv
  have hx := B.exec
  have hb := B.bytes
  have hr := B.returns
  have hts : ∀ w ∈ WALL, w.before _ s = true := fun w h => atoms_spec (ws := ws_J4_append_cf1ce) B.pre w (List.mem_cons_of_mem _ h)
  have hown : s.vm.findClass RJ4 = some m.cls := findClass_of_methodNamed B.named
  have hlocks := B.notSynchronized
  subst hsz
  have hD := hD0.self (sz := s.heap.size)
  generalize hAe : va_A (w_J4_append_cf1ce C q q1 t1_bs tp tn tf tc tl) s.heap.size = A at hD ⊢ hT hs_q1
  have hA : ∀ q : Nat, s.heap.size ≤ q → A q := fun q h => by rw [← hAe]; exact Or.inr h
  have hS : va_S A s.heap s.heap [] := va_S.rf
  have hl := lv_entry ([.ref q, .ref q1]) (n := 2) (Nat.le_of_ble_eq_true rfl)
  rw [lg_entry_eq]
  generalize (lg_sl ([.ref q, .ref q1]) ++ List.replicate (2 - (lg_sl ([.ref q, .ref q1])).length) Slot.unset).toArray = ls at hl ⊢
  have hl : lv_has ls 2 [(0, .ref q), (1, .ref q1)] := hl
  unfold wp_J4_append_cf1ce at hwp
  obtain ⟨H, hH⟩ : ∃ H, H = s.heap := ⟨_, rfl⟩
  obtain ⟨locs, hlo⟩ : ∃ z : List Loc, z = [] := ⟨_, rfl⟩
  have hP : va_P D vwCl [(q, .inr (12, [.ref tp, .int 0, .int tl, .int tc])), (tp, .inl (C 1, tn, .inl tf))] H := by rw [hH]; exact hP
  have hD : va_D A [(q, .inr (12, [.ref tp, .int 0, .int tl, .int tc])), (tp, .inl (C 1, tn, .inl tf))] := hD
  have hS : va_S A s.heap H locs := by rw [hH, hlo]; exact hS
  suffices K : W p l e (headSpec ws_J4_append_cf1ce (rm_J4_append_cf1ce mc ms)).room s m ([.ref q, .ref q1] : List Value).toArray below meth c H locs 0 0 (MQ below (q_J4_append_cf1ce D C q q1 t1_bs tl Q A) ([.ref q, .ref q1] : List Value).toArray s mc ms A) (F0 m 0 ls []) from by rw [hH, hlo] at K; exact K
  refine lv_aload_n hx hb dJ4_append_cf1ce_0 rfl (lv_at hl 0 rfl) ?_
  refine lv_aload_n hx hb dJ4_append_cf1ce_1 rfl (lv_at hl 1 rfl) ?_
  have hPc := hP.sub (ws' := [(q, .inr (12, [.ref tp, .int 0, .int tl, .int tc])), (tp, .inl (C 1, tn, .inl tf))]) [0, 1] rfl
  have hDc := hD.sub (ws' := [(q, .inr (12, [.ref tp, .int 0, .int tl, .int tc])), (tp, .inl (C 1, tn, .inl tf))]) [0, 1] (by decide) rfl
  have hFc := va_free (wc := [(q, .inr (12, [.ref tp, .int 0, .int tl, .int tc])), (tp, .inl (C 1, tn, .inl tf))]) hD hS hA [0, 1] rfl
  obtain ⟨mb2, sb2, hbk, hwp⟩ := hwp
  refine va_callr (va_runV (As := [.ref q1]) (rest := []) ⟨hx, hb, hml, hown, hts⟩ (met_J4_append_15ec4 l hst D C q q1 t1_bs tp tn tf tc tl mb2 sb2 H.size _ hwp) (cwV 1 hts gc_J4_23 rfl rfl rfl (by decide +kernel) ⟨Nat.le_of_ble_eq_true rfl, Nat.le_of_ble_eq_true rfl⟩) ⟨fun a U g mk q => by obtain ⟨q0, q1, qP, qK, qD, qT, qS_q1⟩ := q; exact ⟨q0, q1, qP, va_K.moved (u := U) (U := U.calling g mk a) (Vm.Alike.refl U.vm) qK, qD, qT.mv (U := U.calling g mk a) (State.WarmedH.refl U), qS_q1.moved (U := U.calling g mk a) (Vm.Alike.refl U.vm)⟩, va_recv hK hPc (ci := 12) (q0 := 0) rfl rfl, fun U hU hW => ⟨rfl, by rw [hU], by rw [hU]; exact hPc, va_K.moved hW.alike hK, hDc.weaken (fun _ _ _ _ => trivial), hT.call hS hFc hU hW, hs_q1.call hS hFc hU hW⟩⟩ rfl rfl hl.1 rfl (lv_room (Nat.le_of_ble_eq_true rfl)) dJ4_append_cf1ce_2 ⟨hbk.1, hbk.2⟩) hS (fun q _ h => hFc q h) hFc (fun u ra t H1 locs ht hvm hwp hB hz1 hk1 hS => ?_)
  obtain ⟨u2_1, u2_2, u2_3, u2_4⟩ := u
  obtain ⟨hra, hP1, -, hD1⟩ := hB
  have hra := hra.symm
  subst hra
  rw [ht] at hP1
  obtain ⟨hP, hD⟩ := va_join (wr := []) (w1 := [(q, .inr (12, [.ref u2_1, .int 0, .int tl, .int u2_4])), (u2_1, .inl (C 1, u2_2, .inl u2_3))]) hP hD [0, 1] [] rfl rfl (by decide) (by decide) hk1 hFc hP1 hD1
  generalize H1 = H at hP hS ⊢
  have hP : va_P D vwCl [(q, .inr (12, [.ref u2_1, .int 0, .int tl, .int u2_4])), (u2_1, .inl (C 1, u2_2, .inl u2_3))] H := hP
  have hD : va_D A [(q, .inr (12, [.ref u2_1, .int 0, .int tl, .int u2_4])), (u2_1, .inl (C 1, u2_2, .inl u2_3))] := hD
  obtain ⟨hbk, hwp⟩ := hwp
  have hP9 := hP.sub (ws' := [(q, .inr (12, [.ref u2_1, .int 0, .int tl, .int u2_4])), (u2_1, .inl (C 1, u2_2, .inl u2_3))]) [0, 1] rfl
  have hD9 := hD.sub (ws' := [(q, .inr (12, [.ref u2_1, .int 0, .int tl, .int u2_4])), (u2_1, .inl (C 1, u2_2, .inl u2_3))]) [0, 1] (by decide) rfl
  refine W.widen (k := mc) (n := ms) hbk.1 hbk.2 ?_
  exact W.aret (v := .ref q) (rt := (.object "java/lang/AbstractStringBuilder")) hx hb hr (Or.inl ⟨_, rfl⟩) (Or.inr ⟨_, rfl⟩) (fun t ht hW => ⟨⟨(u2_1, u2_2, u2_3, u2_4), q, rfl, hwp, rfl, by rw [ht]; exact hP9, va_K.moved hW.alike hK, hD9⟩, hS.F ht⟩) hS.2.2 dJ4_append_cf1ce_5

