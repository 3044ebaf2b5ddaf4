/-! words of one list among another's, by their places -/
theorem mem_places {big ws : List Cond} (ps : List Nat) (hp : ps.filterMap (fun i => big[i]?) = ws) : ∀ w ∈ ws, w ∈ big := by
  intro w hw
  rw [← hp] at hw
  obtain ⟨i, -, hi⟩ := List.mem_filterMap.mp hw
  exact List.mem_of_getElem? hi
/-- the array classes that the worlds speak of -/
abbrev tyL (C : Nat → ClassId) : List (ClassId × FieldType) := [(C 0, .int), (C 1, .byte), (C 2, .boolean), (C 3, .object "ParetoDesk$Setup"), (C 4, .long)]
/-- an answer that fits its small type -/
def nzR (ty : FieldType) (r : Int32) : Prop := narrow ty (.int r) = .int r
