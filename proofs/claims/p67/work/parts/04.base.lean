/-! the words that every contract may use: the tables' good ones -/
def WALL : List Cond := lw_tbl.filter goodWord
theorem wall_at {w : Cond} {i : Nat} (h : lw_tbl[i]? = some w) (hg : goodWord w = true) : w ∈ WALL := List.mem_filter.mpr ⟨List.mem_of_getElem? h, hg⟩
theorem wall_places {ws : List Cond} (ps : List Nat) (hp : ws = ps.filterMap (fun i => lw_tbl[i]?)) (hg : ws.all goodWord = true) : ∀ w ∈ ws, w ∈ WALL := by
  intro w hw
  have h1 := List.all_eq_true.mp hg w hw
  rw [hp] at hw
  obtain ⟨i, -, hi⟩ := List.mem_filterMap.mp hw
  exact wall_at hi h1
theorem gc_all : GoodIn WALL WALL := fun w h => ⟨h, good_of_word (List.mem_filter.mp h).2⟩
theorem gc_1 {w : Cond} {ws : List Cond} (h : w ∈ WALL) (hs : GoodIn WALL ws) : GoodIn WALL (w :: ws) := fun v hv => by
  rcases List.mem_cons.mp hv with rfl | hv
  · exact gc_all v h
  · exact hs v hv
theorem gc_0 {w : Cond} (h : w ∈ WALL) : GoodIn WALL (w :: WALL) := gc_1 h gc_all
theorem gc_v {own C : String} {idx : Nat} {y : MethodName} {w : Cond} (h1 : Cond.methodLink own idx y ∈ WALL) (h2 : Cond.instanceMethod y ∈ WALL) (h3 : Cond.selects C y y ∈ WALL) (h4 : Cond.initialized C ∈ WALL) (h5 : w ∈ WALL) : GoodIn WALL (wsV own idx C y (w :: WALL)) :=
  gc_1 h1 (gc_1 h2 (gc_1 h3 (gc_1 h4 (gc_0 h5))))
theorem gc_s {own : String} {idx : Nat} {y : MethodName} {w : Cond} (h1 : Cond.methodLink own idx y ∈ WALL) (h2 : Cond.static y ∈ WALL) (h4 : Cond.initialized y.cls ∈ WALL) (h5 : w ∈ WALL) : GoodIn WALL (va_wsS own idx y (w :: WALL)) :=
  gc_1 h1 (gc_1 h2 (gc_1 h4 (gc_0 h5)))
/-- the array classes that the worlds speak of -/
abbrev tyL (C : Nat → ClassId) : List (ClassId × FieldType) := [(C 0, .int), (C 1, .byte), (C 2, .boolean), (C 3, .object "ParetoDesk$Setup")]
/-- an answer that fits its small type -/
def nzR (ty : FieldType) (r : Int32) : Prop := narrow ty (.int r) = .int r
theorem wall_t {w : Cond} (h : w ∈ tables_1) (hg : goodWord w = true) : w ∈ WALL := List.mem_filter.mpr ⟨List.mem_append_right _ h, hg⟩
theorem tw_1 : ∀ w ∈ tables_1_1, w ∈ tables_1 := fun w h => List.mem_append_left _ h
theorem tw_2 : ∀ w ∈ tables_1_2, w ∈ tables_1 := fun w h => List.mem_append_right _ (List.mem_append_left _ h)
theorem tw_3 : ∀ w ∈ tables_1_3, w ∈ tables_1 := fun w h => List.mem_append_right _ (List.mem_append_right _ (List.mem_append_left _ h))
theorem tw_4 : ∀ w ∈ tables_1_4, w ∈ tables_1 := fun w h => List.mem_append_right _ (List.mem_append_right _ (List.mem_append_right _ (List.mem_append_left _ h)))
theorem tw_5 : ∀ w ∈ tables_1_5, w ∈ tables_1 := fun w h => List.mem_append_right _ (List.mem_append_right _ (List.mem_append_right _ (List.mem_append_right _ h)))
