/-! words of one list among another's, by their places -/
theorem mem_places {big ws : List Cond} (ps : List Nat) (hp : ps.filterMap (fun i => big[i]?) = ws) : ∀ w ∈ ws, w ∈ big := by
  intro w hw
  rw [← hp] at hw
  obtain ⟨i, -, hi⟩ := List.mem_filterMap.mp hw
  exact List.mem_of_getElem? hi
/-- the array classes that the worlds speak of -/
abbrev tyL (C : Nat → ClassId) : List (ClassId × FieldType) := [(C 0, .int), (C 1, .byte), (C 2, .boolean), (C 3, .object "ParetoDesk$Setup"), (C 4, .long)]
/-- an answer that fits its small type -/
def nzR (ty : FieldType) (r : Int32) : Prop := narrow ty (.int r) = .int r
abbrev vwCl : List vw_C := [(RX0, TX0, 9), (RX1, TX1, 4), (RX2, TX2, 13), (RX3, TX3, 8), (RX4, TX4, 2), (RX5, TX5, 9), (RX6, TX6, 2), (RX7, TX7, 4), (RX8, TX8, 11), (RX9, TX9, 2), (RX10, TX10, 19), (RX11, TX11, 40)]
