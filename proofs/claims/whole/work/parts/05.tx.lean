/-! what the methods that throw take as given: the words of a throw, the texts, the two statics of Throwable -/
def tx_names : List String := ["java/lang/RuntimeException", "java/lang/Exception"]
def tx_wsISE : List Cond := vx_atS RX10 102 "java/lang/IllegalStateException" tx_names
def tx_wsIAE : List Cond := vx_atS RX10 113 "java/lang/IllegalArgumentException" tx_names
def tx_wsIOE : List Cond := vx_atS RX10 244 "java/lang/IndexOutOfBoundsException" tx_names
def tx_ws : List Cond := tx_wsISE ++ tx_wsIAE ++ tx_wsIOE
theorem tx_good : ∀ w ∈ tx_ws, (goodWord w || (w.onTables && w.faceAtom)) = true := by decide +kernel
theorem tx_ot {w : Cond} (h : w ∈ tx_ws) : vx_ot w = true := by
  have h1 := tx_good w h
  simp only [Bool.or_eq_true, Bool.and_eq_true] at h1
  simp only [vx_ot, Bool.or_eq_true]
  rcases h1 with h1 | h1
  · exact Or.inr h1
  · exact Or.inl h1.1
theorem tx_mvw {u U : State} (hW : u.WarmedH U.vm) {w : Cond} (h : w ∈ tx_ws) (hb : w.before #[] u = true) : w.before #[] U = true := by
  have h1 := tx_good w h
  simp only [Bool.or_eq_true, Bool.and_eq_true] at h1
  rcases h1 with h1 | ⟨h1, h2⟩
  · exact word_at hW (good_of_word h1) hb
  · exact va_tabs h1 (rfl : (u.setVm U.vm).vm = U.vm) (Cond.faceAtom_setVm hW.alike w h2 hb)
def tx_str : List (Nat × String) := [(100, "the input buffer is full"), (111, "no such length"), (242, "no such vertex"), (251, "no such box"), (261, "no such step"), (316, "no such layer"), (333, "there are 12 items"), (342, "no such limit"), (361, "there are no points"), (366, "the choice at hand has this item"), (368, "the choice at hand does not have this item"), (373, "nothing is kept there"), (376, "there is nothing to undo"), (390, "no such byte"), (420, "no such item"), (422, "both are the same item"), (424, "no such set"), (426, "the choice is refused"), (428, "no such point"), (430, "no such slot"), (432, "no such number is told"), (434, "the value is out of range"), (436, "no such capacity"), (438, "both weights are 0")]
def tx_nest : List (String × Nat × MethodName × String) := [("ParetoDesk$Climber", 47, yX10_hasBit, "ParetoDesk"), ("ParetoDesk$Parser", 155, yX10_hasBit, "ParetoDesk"), ("ParetoDesk$Parser", 159, yX10_withBit, "ParetoDesk")]
def TX (A : Nat → Prop) (U : State) (H : Heap) : Prop :=
  (∀ w ∈ tx_ws, w.before #[] U = true) ∧ (∀ q ∈ tx_str, ∃ a : Nat, vk_R RX10 q.1 q.2 a U) ∧ vx_Zq Bundle.tN "UNASSIGNED_STACK" Bundle.steD A U H ∧ vx_Zq Bundle.tN "SUPPRESSED_SENTINEL" Bundle.listD A U H ∧ (∀ q ∈ tx_nest, va_Nw (.methodLinkNest q.1 q.2.1 q.2.2.1 q.2.2.2) U)
theorem TX.mv {A : Nat → Prop} {u U : State} {H : Heap} (h : TX A u H) (hW : u.WarmedH U.vm) : TX A U H :=
  ⟨fun w hw => tx_mvw hW hw (h.1 w hw), fun q hq => (h.2.1 q hq).elim fun a ha => ⟨a, ha.warm hW⟩, h.2.2.1.moved hW.alike, h.2.2.2.1.moved hW.alike, fun q hq => va_Nw.warmM hW (h.2.2.2.2 q hq)⟩
theorem TX.kept {A : Nat → Prop} {U : State} {H H1 : Heap} (h : TX A U H) (hq : ∀ a : Nat, a < H.size → ¬ A a → H1[a]? = H[a]?) : TX A U H1 := ⟨h.1, h.2.1, h.2.2.1.kept hq, h.2.2.2.1.kept hq, h.2.2.2.2⟩
theorem TX.narrow {A B : Nat → Prop} {U : State} {H : Heap} (h : TX A U H) (hAB : ∀ q, B q → A q) : TX B U H := ⟨h.1, h.2.1, h.2.2.1.narrow hAB, h.2.2.2.1.narrow hAB, h.2.2.2.2⟩
theorem TX.call {A B : Nat → Prop} {s U : State} {H : Heap} {locs : List Loc} (h : TX A s s.heap) (hS : va_S A s.heap H locs) (hF : ∀ q, B q → A q) (hU : U.heap = H) (hW : s.WarmedH U.vm) : TX B U U.heap := by
  rw [hU]
  exact ((h.kept (H1 := H) (fun a h1 h2 => hS.2.1 a h1 h2)).narrow hF).mv hW
theorem tx_P {D : va_G} {cl : List vw_C} {ws : va_W} {H H1 : Heap} (h : va_P D cl ws H) (hk : ∀ q : Nat, q < H.size → H1[q]? = H[q]?) : va_P D cl ws H1 := fun k q hq => (h k q hq).kept (hk _ (h k q hq).lt)
theorem tx_F {A : Nat → Prop} {s t : State} {H : Heap} {locs : List Loc} (h : va_S A s.heap H locs) (hz : H.size ≤ t.heap.size) (hk : ∀ q : Nat, q < H.size → t.heap[q]? = H[q]?) : va_F A s t :=
  ⟨Nat.le_trans h.1 hz, fun q h1 h2 => (hk q (Nat.lt_of_lt_of_le h1 h.1)).trans (h.2.1 q h1 h2)⟩
theorem tx_atISE {A : Nat → Prop} {s : State} {H : Heap} {args : Array Value} (h : TX A s H) : ∀ w ∈ vx_atS RX10 102 "java/lang/IllegalStateException" tx_names, w.before args s = true := fun w hw => vx_ot_at (State.WarmedH.refl s) rfl (tx_ot (List.mem_append_left _ (List.mem_append_left _ hw))) (h.1 w (List.mem_append_left _ (List.mem_append_left _ hw)))
theorem tx_atIAE {A : Nat → Prop} {s : State} {H : Heap} {args : Array Value} (h : TX A s H) : ∀ w ∈ vx_atS RX10 113 "java/lang/IllegalArgumentException" tx_names, w.before args s = true := fun w hw => vx_ot_at (State.WarmedH.refl s) rfl (tx_ot (List.mem_append_left _ (List.mem_append_right _ hw))) (h.1 w (List.mem_append_left _ (List.mem_append_right _ hw)))
theorem tx_atIOE {A : Nat → Prop} {s : State} {H : Heap} {args : Array Value} (h : TX A s H) : ∀ w ∈ vx_atS RX10 244 "java/lang/IndexOutOfBoundsException" tx_names, w.before args s = true := fun w hw => vx_ot_at (State.WarmedH.refl s) rfl (tx_ot (List.mem_append_right _ hw)) (h.1 w (List.mem_append_right _ hw))
theorem sw_ne {x v : Int32} {n : Int} (hv : v.toInt = n) (h : ¬ x = v) : x.toInt ≠ n := fun e => h (Int32.toInt_inj.mp (e.trans hv.symm))
theorem sw_out0_2 {x : Int32} (h0 : ¬ x = 0) (h1 : ¬ x = 1) (h2 : ¬ x = 2) : x.toInt < 0 ∨ 2 < x.toInt := by
  have e0 := sw_ne (n := 0) rfl h0
  have e1 := sw_ne (n := 1) rfl h1
  have e2 := sw_ne (n := 2) rfl h2
  omega
theorem sw_out0_3 {x : Int32} (h0 : ¬ x = 0) (h1 : ¬ x = 1) (h2 : ¬ x = 2) (h3 : ¬ x = 3) : x.toInt < 0 ∨ 3 < x.toInt := by
  have e0 := sw_ne (n := 0) rfl h0
  have e1 := sw_ne (n := 1) rfl h1
  have e2 := sw_ne (n := 2) rfl h2
  have e3 := sw_ne (n := 3) rfl h3
  omega
theorem sw_out0_4 {x : Int32} (h0 : ¬ x = 0) (h1 : ¬ x = 1) (h2 : ¬ x = 2) (h3 : ¬ x = 3) (h4 : ¬ x = 4) : x.toInt < 0 ∨ 4 < x.toInt := by
  have e0 := sw_ne (n := 0) rfl h0
  have e1 := sw_ne (n := 1) rfl h1
  have e2 := sw_ne (n := 2) rfl h2
  have e3 := sw_ne (n := 3) rfl h3
  have e4 := sw_ne (n := 4) rfl h4
  omega
theorem sw_out0_5 {x : Int32} (h0 : ¬ x = 0) (h1 : ¬ x = 1) (h2 : ¬ x = 2) (h3 : ¬ x = 3) (h4 : ¬ x = 4) (h5 : ¬ x = 5) : x.toInt < 0 ∨ 5 < x.toInt := by
  have e0 := sw_ne (n := 0) rfl h0
  have e1 := sw_ne (n := 1) rfl h1
  have e2 := sw_ne (n := 2) rfl h2
  have e3 := sw_ne (n := 3) rfl h3
  have e4 := sw_ne (n := 4) rfl h4
  have e5 := sw_ne (n := 5) rfl h5
  omega
theorem sw_out0_6 {x : Int32} (h0 : ¬ x = 0) (h1 : ¬ x = 1) (h2 : ¬ x = 2) (h3 : ¬ x = 3) (h4 : ¬ x = 4) (h5 : ¬ x = 5) (h6 : ¬ x = 6) : x.toInt < 0 ∨ 6 < x.toInt := by
  have e0 := sw_ne (n := 0) rfl h0
  have e1 := sw_ne (n := 1) rfl h1
  have e2 := sw_ne (n := 2) rfl h2
  have e3 := sw_ne (n := 3) rfl h3
  have e4 := sw_ne (n := 4) rfl h4
  have e5 := sw_ne (n := 5) rfl h5
  have e6 := sw_ne (n := 6) rfl h6
  omega
theorem sw_out0_7 {x : Int32} (h0 : ¬ x = 0) (h1 : ¬ x = 1) (h2 : ¬ x = 2) (h3 : ¬ x = 3) (h4 : ¬ x = 4) (h5 : ¬ x = 5) (h6 : ¬ x = 6) (h7 : ¬ x = 7) : x.toInt < 0 ∨ 7 < x.toInt := by
  have e0 := sw_ne (n := 0) rfl h0
  have e1 := sw_ne (n := 1) rfl h1
  have e2 := sw_ne (n := 2) rfl h2
  have e3 := sw_ne (n := 3) rfl h3
  have e4 := sw_ne (n := 4) rfl h4
  have e5 := sw_ne (n := 5) rfl h5
  have e6 := sw_ne (n := 6) rfl h6
  have e7 := sw_ne (n := 7) rfl h7
  omega
