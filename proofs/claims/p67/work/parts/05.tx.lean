/-! what the methods that throw take as given: the words of a throw, the texts, the two statics of Throwable -/
def tx_names : List String := ["java/lang/RuntimeException", "java/lang/Exception"]
def tx_wsISE : List Cond := vx_atS RX10 102 "java/lang/IllegalStateException" tx_names
def tx_wsIAE : List Cond := vx_atS RX10 113 "java/lang/IllegalArgumentException" tx_names
def tx_wsIOE : List Cond := vx_atS RX10 244 "java/lang/IndexOutOfBoundsException" tx_names
def tx_ws : List Cond := tx_wsISE ++ tx_wsIAE ++ tx_wsIOE
theorem tx_good : ∀ w ∈ tx_ws, (goodWord w || (w.onTables && w.faceAtom)) = true := by decide +kernel
theorem tx_ot {w : Cond} (h : w ∈ tx_ws) : vx_ot w = true := by
  have h1 := tx_good w h
  simp only [Bool.or_eq_true, Bool.and_eq_true] at h1
  simp only [vx_ot, Bool.or_eq_true]
  rcases h1 with h1 | h1
  · exact Or.inr h1
  · exact Or.inl h1.1
theorem tx_mvw {u U : State} (hW : u.WarmedH U.vm) {w : Cond} (h : w ∈ tx_ws) (hb : w.before #[] u = true) : w.before #[] U = true := by
  have h1 := tx_good w h
  simp only [Bool.or_eq_true, Bool.and_eq_true] at h1
  rcases h1 with h1 | ⟨h1, h2⟩
  · exact word_at hW (good_of_word h1) hb
  · exact va_tabs h1 (rfl : (u.setVm U.vm).vm = U.vm) (Cond.faceAtom_setVm hW.alike w h2 hb)
def tx_str : List (Nat × String) := [(100, "the input buffer is full"), (111, "no such length"), (316, "no such layer"), (420, "no such item"), (424, "no such set"), (428, "no such point"), (432, "no such number is told"), (436, "no such capacity")]
def tx_nest : List (String × Nat × MethodName × String) := [("ParetoDesk$Parser", 155, yX10_hasBit, "ParetoDesk"), ("ParetoDesk$Parser", 159, yX10_withBit, "ParetoDesk")]
/-- a String of these bytes that no method writes -/
def StrC (bs : List Int32) (a : Nat) (A : Nat → Prop) (U : State) (H : Heap) : Prop := ∃ v : Nat, va_O "java/lang/String" a A U H ∧ va_OF "java/lang/String" "coder" "B" (.int 0) a A U H ∧ va_OF "java/lang/String" "value" "[B" (.ref v) a A U H ∧ va_T .byte v bs.length (fun j => .int (bs.getD j 0)) A U H
theorem StrC.moved {bs : List Int32} {a : Nat} {A : Nat → Prop} {u U : State} {H : Heap} (hvm : u.vm.Alike U.vm) (h : StrC bs a A u H) : StrC bs a A U H := by
  obtain ⟨v, h1, h2, h3, h4⟩ := h
  exact ⟨v, va_O.moved hvm h1, va_OF.moved hvm h2, va_OF.moved hvm h3, va_T.moved hvm h4⟩
theorem StrC.kept {bs : List Int32} {a : Nat} {A : Nat → Prop} {U : State} {H H1 : Heap} (h : StrC bs a A U H) (hq : ∀ a : Nat, a < H.size → ¬ A a → H1[a]? = H[a]?) : StrC bs a A U H1 := by
  obtain ⟨v, h1, h2, h3, h4⟩ := h
  exact ⟨v, h1.kept hq, h2.kept hq, h3.kept hq, h4.kept hq⟩
theorem StrC.narrow {bs : List Int32} {a : Nat} {A B : Nat → Prop} {U : State} {H : Heap} (h : StrC bs a A U H) (hAB : ∀ q, B q → A q) : StrC bs a B U H := by
  obtain ⟨v, h1, h2, h3, h4⟩ := h
  exact ⟨v, h1.narrow hAB, h2.narrow hAB, h3.narrow hAB, h4.narrow hAB⟩
theorem StrC.call {bs : List Int32} {a : Nat} {A B : Nat → Prop} {s U : State} {H : Heap} {locs : List Loc} (h : StrC bs a A s s.heap) (hS : va_S A s.heap H locs) (hF : ∀ q, B q → A q) (hU : U.heap = H) (hW : s.WarmedH U.vm) : StrC bs a B U U.heap := by
  rw [hU]
  exact ((h.kept (H1 := H) (fun a h1 h2 => hS.2.1 a h1 h2)).narrow hF).moved hW.alike
theorem StrC.recv {bs : List Int32} {a : Nat} {A : Nat → Prop} {s : State} {H : Heap} {locs : List Loc} (h : StrC bs a A s s.heap) (hS : va_S A s.heap H locs) : ∃ cell : Cell, H[a]? = some cell ∧ cell.vm.isStatics = false ∧ s.vm.findClass "java/lang/String" = some cell.cls := by
  obtain ⟨v, h1, -⟩ := h
  obtain ⟨cell, h1, h2, h3, -⟩ := h1.kept hS.2.1
  exact ⟨cell, h1, h2, h3⟩
/-- an array of bytes that no method writes -/
abbrev ArrC (bs : List Int32) (a : Nat) (A : Nat → Prop) (U : State) (H : Heap) : Prop := va_T .byte a bs.length (fun j => .int (bs.getD j 0)) A U H
theorem ArrC_call {bs : List Int32} {a : Nat} {A B : Nat → Prop} {s U : State} {H : Heap} {locs : List Loc} (h : ArrC bs a A s s.heap) (hS : va_S A s.heap H locs) (hF : ∀ q, B q → A q) (hU : U.heap = H) (hW : s.WarmedH U.vm) : ArrC bs a B U U.heap := by
  rw [hU]
  exact va_T.moved hW.alike ((va_T.kept h (H1 := H) (fun a h1 h2 => hS.2.1 a h1 h2)).narrow hF)
theorem va_ldcSW {p : Program} {l : Launch} {e : Env} {R : Room} {s : State} {m : MethodId} {args : Array Value} {below : List Frame} {meth : Method} {c : Code} {H : Heap} {locs : List Loc} {cells slots : Nat} {Q : State → Prop} {cc : ByteArray} {pc : Nat} {ls : Array Slot} {rest : List Value} (hexec : p.tables.exec = Jvm.exec) (hb : c.code = cc) {own tx : String} {index q : Nat} (hown : s.vm.findClass own = some m.cls) (hZ : vk_R own index tx q s) (hdg : decode cc pc = .ok (.ldc_w index, 3))
    (k : W p l e R s m args below meth c H locs cells slots Q (F0 m (pc + 3) ls (.ref q :: rest))) : W p l e R s m args below meth c H locs cells slots Q (F0 m pc ls rest) := by
  intro T hT X
  obtain ⟨t, a1, b1⟩ := k T hT X
  exact ⟨t, X.ldcStringW hexec hown (text := tx) (a := q) hZ.1 hZ.2 (g := F0 m pc ls rest) rfl (by rw [hb]; exact hdg) t a1, b1⟩
def tx_words : List (String × Nat × String × List Int32) := [("ParetoDeskLaw", 46, "capacity ", [99, 97, 112, 97, 99, 105, 116, 121, 32]), ("ParetoDeskLaw", 54, " limit ", [32, 108, 105, 109, 105, 116, 32]), ("ParetoDeskLaw", 59, ";", [59]), ("ParetoDeskLaw", 61, "item weight ", [105, 116, 101, 109, 32, 119, 101, 105, 103, 104, 116, 32]), ("ParetoDeskLaw", 63, " gain ", [32, 103, 97, 105, 110, 32]), ("ParetoDeskLaw", 65, " joy ", [32, 106, 111, 121, 32]), ("ParetoDeskLaw", 67, "bar ", [98, 97, 114, 32]), ("ParetoDeskLaw", 69, " ", [32]), ("ParetoDeskLaw", 71, "need ", [110, 101, 101, 100, 32]), ("ParetoDeskLaw", 73, "must ", [109, 117, 115, 116, 32]), ("ParetoDeskLaw", 75, "never ", [110, 101, 118, 101, 114, 32]), ("ParetoDesk$Parser", 97, "capacity", [99, 97, 112, 97, 99, 105, 116, 121]), ("ParetoDesk$Parser", 108, "limit", [108, 105, 109, 105, 116]), ("ParetoDesk$Parser", 115, "item", [105, 116, 101, 109]), ("ParetoDesk$Parser", 120, "bar", [98, 97, 114]), ("ParetoDesk$Parser", 122, "need", [110, 101, 101, 100]), ("ParetoDesk$Parser", 128, "must", [109, 117, 115, 116]), ("ParetoDesk$Parser", 130, "never", [110, 101, 118, 101, 114]), ("ParetoDesk$Parser", 138, "weight", [119, 101, 105, 103, 104, 116]), ("ParetoDesk$Parser", 140, "gain", [103, 97, 105, 110]), ("ParetoDesk$Parser", 142, "joy", [106, 111, 121])]
def tx_prv : List MethodName := [yJ5_ensureCapacityInternal_d00df, yJ5_newCapacity_0f7a4, yJ5_putStringAt_47b60, yJ5_inflateIfNeededFor_a7421]
def dgO (j : Nat) : Int32 := Int32.ofNat (48 + j % 10)
def dgT (j : Nat) : Int32 := Int32.ofNat (48 + j / 10)
/-- the words of the texts, and two statics of the JDK -/
def TW (A : Nat → Prop) (U : State) (H : Heap) : Prop := (∀ q ∈ tx_words, ∃ a : Nat, vk_R q.1 q.2.1 q.2.2.1 a U ∧ StrC q.2.2.2 a A U H) ∧ va_Z "java/lang/String" "COMPACT_STRINGS" "Z" (.int 1) A U H ∧ va_Zq "jdk/internal/util/Preconditions" "SIOOBE_FORMATTER" "Ljava/util/function/BiFunction;" A U H ∧ (∃ a : Nat, va_Z "java/lang/Integer" "DigitOnes" "[B" (.ref a) A U H ∧ va_T .byte a 100 (fun j => .int (dgO j)) A U H) ∧ (∃ a : Nat, va_Z "java/lang/Integer" "DigitTens" "[B" (.ref a) A U H ∧ va_T .byte a 100 (fun j => .int (dgT j)) A U H) ∧ (∀ x ∈ tx_prv, va_Nw (.selects "java/lang/StringBuilder" x x) U) ∧ va_Nw (.castable "[B" "java/lang/Cloneable") U
theorem TW.mv {A : Nat → Prop} {u U : State} {H : Heap} (h : TW A u H) (hW : u.WarmedH U.vm) : TW A U H :=
  ⟨fun q hq => (h.1 q hq).elim fun a ha => ⟨a, ha.1.warm hW, ha.2.moved hW.alike⟩, h.2.1.moved hW.alike, h.2.2.1.moved hW.alike, h.2.2.2.1.elim fun a ha => ⟨a, ha.1.moved hW.alike, va_T.moved hW.alike ha.2⟩, h.2.2.2.2.1.elim fun a ha => ⟨a, ha.1.moved hW.alike, va_T.moved hW.alike ha.2⟩, fun x hx => word_at hW (Or.inl (by rfl)) (h.2.2.2.2.2.1 x hx), h.2.2.2.2.2.2.warmC hW⟩
theorem TW.kept {A : Nat → Prop} {U : State} {H H1 : Heap} (h : TW A U H) (hq : ∀ a : Nat, a < H.size → ¬ A a → H1[a]? = H[a]?) : TW A U H1 :=
  ⟨fun q hq2 => (h.1 q hq2).elim fun a ha => ⟨a, ha.1, ha.2.kept hq⟩, h.2.1.kept hq, h.2.2.1.kept hq, h.2.2.2.1.elim fun a ha => ⟨a, ha.1.kept hq, va_T.kept ha.2 hq⟩, h.2.2.2.2.1.elim fun a ha => ⟨a, ha.1.kept hq, va_T.kept ha.2 hq⟩, h.2.2.2.2.2⟩
theorem TW.narrow {A B : Nat → Prop} {U : State} {H : Heap} (h : TW A U H) (hAB : ∀ q, B q → A q) : TW B U H :=
  ⟨fun q hq2 => (h.1 q hq2).elim fun a ha => ⟨a, ha.1, ha.2.narrow hAB⟩, h.2.1.narrow hAB, h.2.2.1.narrow hAB, h.2.2.2.1.elim fun a ha => ⟨a, ha.1.narrow hAB, va_T.narrow ha.2 hAB⟩, h.2.2.2.2.1.elim fun a ha => ⟨a, ha.1.narrow hAB, va_T.narrow ha.2 hAB⟩, h.2.2.2.2.2⟩
def TX (A : Nat → Prop) (U : State) (H : Heap) : Prop :=
  (∀ w ∈ tx_ws, w.before #[] U = true) ∧ (∀ q ∈ tx_str, ∃ a : Nat, vk_R RX10 q.1 q.2 a U) ∧ vx_Zq Bundle.tN "UNASSIGNED_STACK" Bundle.steD A U H ∧ vx_Zq Bundle.tN "SUPPRESSED_SENTINEL" Bundle.listD A U H ∧ (∀ q ∈ tx_nest, va_Nw (.methodLinkNest q.1 q.2.1 q.2.2.1 q.2.2.2) U) ∧ TW A U H
theorem TX.mv {A : Nat → Prop} {u U : State} {H : Heap} (h : TX A u H) (hW : u.WarmedH U.vm) : TX A U H :=
  ⟨fun w hw => tx_mvw hW hw (h.1 w hw), fun q hq => (h.2.1 q hq).elim fun a ha => ⟨a, ha.warm hW⟩, h.2.2.1.moved hW.alike, h.2.2.2.1.moved hW.alike, fun q hq => va_Nw.warmM hW (h.2.2.2.2.1 q hq), h.2.2.2.2.2.mv hW⟩
theorem TX.kept {A : Nat → Prop} {U : State} {H H1 : Heap} (h : TX A U H) (hq : ∀ a : Nat, a < H.size → ¬ A a → H1[a]? = H[a]?) : TX A U H1 := ⟨h.1, h.2.1, h.2.2.1.kept hq, h.2.2.2.1.kept hq, h.2.2.2.2.1, h.2.2.2.2.2.kept hq⟩
theorem TX.narrow {A B : Nat → Prop} {U : State} {H : Heap} (h : TX A U H) (hAB : ∀ q, B q → A q) : TX B U H := ⟨h.1, h.2.1, h.2.2.1.narrow hAB, h.2.2.2.1.narrow hAB, h.2.2.2.2.1, h.2.2.2.2.2.narrow hAB⟩
theorem TX.call {A B : Nat → Prop} {s U : State} {H : Heap} {locs : List Loc} (h : TX A s s.heap) (hS : va_S A s.heap H locs) (hF : ∀ q, B q → A q) (hU : U.heap = H) (hW : s.WarmedH U.vm) : TX B U U.heap := by
  rw [hU]
  exact ((h.kept (H1 := H) (fun a h1 h2 => hS.2.1 a h1 h2)).narrow hF).mv hW
theorem tx_P {D : va_G} {cl : List vw_C} {ws : va_W} {H H1 : Heap} (h : va_P D cl ws H) (hk : ∀ q : Nat, q < H.size → H1[q]? = H[q]?) : va_P D cl ws H1 := fun k q hq => (h k q hq).kept (hk _ (h k q hq).lt)
theorem tx_F {A : Nat → Prop} {s t : State} {H : Heap} {locs : List Loc} (h : va_S A s.heap H locs) (hz : H.size ≤ t.heap.size) (hk : ∀ q : Nat, q < H.size → t.heap[q]? = H[q]?) : va_F A s t :=
  ⟨Nat.le_trans h.1 hz, fun q h1 h2 => (hk q (Nat.lt_of_lt_of_le h1 h.1)).trans (h.2.1 q h1 h2)⟩
theorem tx_atISE {A : Nat → Prop} {s : State} {H : Heap} {args : Array Value} (h : TX A s H) : ∀ w ∈ vx_atS RX10 102 "java/lang/IllegalStateException" tx_names, w.before args s = true := fun w hw => vx_ot_at (State.WarmedH.refl s) rfl (tx_ot (List.mem_append_left _ (List.mem_append_left _ hw))) (h.1 w (List.mem_append_left _ (List.mem_append_left _ hw)))
theorem tx_atIAE {A : Nat → Prop} {s : State} {H : Heap} {args : Array Value} (h : TX A s H) : ∀ w ∈ vx_atS RX10 113 "java/lang/IllegalArgumentException" tx_names, w.before args s = true := fun w hw => vx_ot_at (State.WarmedH.refl s) rfl (tx_ot (List.mem_append_left _ (List.mem_append_right _ hw))) (h.1 w (List.mem_append_left _ (List.mem_append_right _ hw)))
theorem tx_atIOE {A : Nat → Prop} {s : State} {H : Heap} {args : Array Value} (h : TX A s H) : ∀ w ∈ vx_atS RX10 244 "java/lang/IndexOutOfBoundsException" tx_names, w.before args s = true := fun w hw => vx_ot_at (State.WarmedH.refl s) rfl (tx_ot (List.mem_append_right _ hw)) (h.1 w (List.mem_append_right _ hw))
theorem sw_ne {x v : Int32} {n : Int} (hv : v.toInt = n) (h : ¬ x = v) : x.toInt ≠ n := fun e => h (Int32.toInt_inj.mp (e.trans hv.symm))
theorem sw_out0_2 {x : Int32} (h0 : ¬ x = 0) (h1 : ¬ x = 1) (h2 : ¬ x = 2) : x.toInt < 0 ∨ 2 < x.toInt := by
  have e0 := sw_ne (n := 0) rfl h0
  have e1 := sw_ne (n := 1) rfl h1
  have e2 := sw_ne (n := 2) rfl h2
  omega
theorem sw_out0_3 {x : Int32} (h0 : ¬ x = 0) (h1 : ¬ x = 1) (h2 : ¬ x = 2) (h3 : ¬ x = 3) : x.toInt < 0 ∨ 3 < x.toInt := by
  have e0 := sw_ne (n := 0) rfl h0
  have e1 := sw_ne (n := 1) rfl h1
  have e2 := sw_ne (n := 2) rfl h2
  have e3 := sw_ne (n := 3) rfl h3
  omega
theorem sw_out0_4 {x : Int32} (h0 : ¬ x = 0) (h1 : ¬ x = 1) (h2 : ¬ x = 2) (h3 : ¬ x = 3) (h4 : ¬ x = 4) : x.toInt < 0 ∨ 4 < x.toInt := by
  have e0 := sw_ne (n := 0) rfl h0
  have e1 := sw_ne (n := 1) rfl h1
  have e2 := sw_ne (n := 2) rfl h2
  have e3 := sw_ne (n := 3) rfl h3
  have e4 := sw_ne (n := 4) rfl h4
  omega
theorem sw_out0_5 {x : Int32} (h0 : ¬ x = 0) (h1 : ¬ x = 1) (h2 : ¬ x = 2) (h3 : ¬ x = 3) (h4 : ¬ x = 4) (h5 : ¬ x = 5) : x.toInt < 0 ∨ 5 < x.toInt := by
  have e0 := sw_ne (n := 0) rfl h0
  have e1 := sw_ne (n := 1) rfl h1
  have e2 := sw_ne (n := 2) rfl h2
  have e3 := sw_ne (n := 3) rfl h3
  have e4 := sw_ne (n := 4) rfl h4
  have e5 := sw_ne (n := 5) rfl h5
  omega
theorem sw_out0_6 {x : Int32} (h0 : ¬ x = 0) (h1 : ¬ x = 1) (h2 : ¬ x = 2) (h3 : ¬ x = 3) (h4 : ¬ x = 4) (h5 : ¬ x = 5) (h6 : ¬ x = 6) : x.toInt < 0 ∨ 6 < x.toInt := by
  have e0 := sw_ne (n := 0) rfl h0
  have e1 := sw_ne (n := 1) rfl h1
  have e2 := sw_ne (n := 2) rfl h2
  have e3 := sw_ne (n := 3) rfl h3
  have e4 := sw_ne (n := 4) rfl h4
  have e5 := sw_ne (n := 5) rfl h5
  have e6 := sw_ne (n := 6) rfl h6
  omega
theorem sw_out0_7 {x : Int32} (h0 : ¬ x = 0) (h1 : ¬ x = 1) (h2 : ¬ x = 2) (h3 : ¬ x = 3) (h4 : ¬ x = 4) (h5 : ¬ x = 5) (h6 : ¬ x = 6) (h7 : ¬ x = 7) : x.toInt < 0 ∨ 7 < x.toInt := by
  have e0 := sw_ne (n := 0) rfl h0
  have e1 := sw_ne (n := 1) rfl h1
  have e2 := sw_ne (n := 2) rfl h2
  have e3 := sw_ne (n := 3) rfl h3
  have e4 := sw_ne (n := 4) rfl h4
  have e5 := sw_ne (n := 5) rfl h5
  have e6 := sw_ne (n := 6) rfl h6
  have e7 := sw_ne (n := 7) rfl h7
  omega
