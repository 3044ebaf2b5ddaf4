/-! words of the law -/
theorem wx_728_0 : (Cond.code yJ4_append_bf812 cJ4_append_bf812 2 (some (.object "java/lang/StringBuilder")) : Cond) ∈ WALL := wall_t (tw_3 _ (List.mem_of_getElem? (i := 214) (by rfl))) rfl
theorem wx_764_0 : (Cond.code yJ4_toString_0e30d cJ4_toString_0e30d 1 (some (.object "java/lang/String")) : Cond) ∈ WALL := wall_t (tw_4 _ (List.mem_of_getElem? (i := 10) (by rfl))) rfl
