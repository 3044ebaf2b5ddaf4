/-! THE LAW'S START: what is given there -/
abbrev lw_sA (s : State) : Nat → Prop := fun q => s.heap.size ≤ q
theorem st_hA {s : State} : ∀ a : Nat, a < s.heap.size → ¬ lw_sA s a := fun _ h z => Nat.not_le.mpr h z
abbrev stG (b : Nat) (s : State) : Prop := (Jvm.Cond.and given_1 narrow_1).before #[Value.ref b] s = true
abbrev stT (b : Nat) (s : State) : Prop := ∀ w ∈ lw_tbl, w.before #[Value.ref b] s = true
set_option maxRecDepth 100000 in
theorem st_w0 {b : Nat} {s : State} (h : stG b s) (ht : stT b s) : ∃ a : Nat, vk_R "ParetoDeskModel" 306 "capacity" a s ∧ StrC [99, 97, 112, 97, 99, 105, 116, 121] a (lw_sA s) s s.heap := by
  have hs := flat_of_before _ h
  obtain ⟨adK, adV, h1, h2⟩ := vk_Sof (args := #[Value.ref b]) (s := s) (N := 1) (tm := fun _ => (Term.string "ParetoDeskModel" 306)) (len := [8]) (byt := [[99, 97, 112, 97, 99, 105, 116, 121]]) (A := lw_sA s) (fun i hi => by
    obtain rfl : i = 0 := by omega
    decide) (fun i hi => hs _ (by decide +kernel)) (fun i hi => hs _ (by decide +kernel)) (fun i hi => hs _ (by decide +kernel)) (fun i hi => by
    obtain rfl : i = 0 := by omega
    exact hs _ (by decide +kernel)) (fun i hi j hj => by
    obtain rfl : i = 0 := by omega
    have hj : j < 8 := hj
    rcases (show j = 0 ∨ j = 1 ∨ j = 2 ∨ j = 3 ∨ j = 4 ∨ j = 5 ∨ j = 6 ∨ j = 7 by omega) with rfl | rfl | rfl | rfl | rfl | rfl | rfl | rfl <;> exact hs _ (by decide +kernel)) (fun i j hi hj hij => absurd (show i = j by omega) hij) st_hA
  exact ⟨adK 0, vk_R.of (ht _ (List.mem_append_right _ (tw_7 _ (List.mem_of_getElem? (i := 115) (by decide +kernel))))) (h2 0 (by omega)), adV 0, (h1.1 0 (by omega)).1, (h1.1 0 (by omega)).2.1, (h1.1 0 (by omega)).2.2.1, (h1.1 0 (by omega)).2.2.2⟩
set_option maxRecDepth 100000 in
theorem st_w1 {b : Nat} {s : State} (h : stG b s) (ht : stT b s) : ∃ a : Nat, vk_R "ParetoDeskModel" 312 "limit" a s ∧ StrC [108, 105, 109, 105, 116] a (lw_sA s) s s.heap := by
  have hs := flat_of_before _ h
  obtain ⟨adK, adV, h1, h2⟩ := vk_Sof (args := #[Value.ref b]) (s := s) (N := 1) (tm := fun _ => (Term.string "ParetoDeskModel" 312)) (len := [5]) (byt := [[108, 105, 109, 105, 116]]) (A := lw_sA s) (fun i hi => by
    obtain rfl : i = 0 := by omega
    decide) (fun i hi => hs _ (by decide +kernel)) (fun i hi => hs _ (by decide +kernel)) (fun i hi => hs _ (by decide +kernel)) (fun i hi => by
    obtain rfl : i = 0 := by omega
    exact hs _ (by decide +kernel)) (fun i hi j hj => by
    obtain rfl : i = 0 := by omega
    have hj : j < 5 := hj
    rcases (show j = 0 ∨ j = 1 ∨ j = 2 ∨ j = 3 ∨ j = 4 by omega) with rfl | rfl | rfl | rfl | rfl <;> exact hs _ (by decide +kernel)) (fun i j hi hj hij => absurd (show i = j by omega) hij) st_hA
  exact ⟨adK 0, vk_R.of (ht _ (List.mem_append_right _ (tw_7 _ (List.mem_of_getElem? (i := 146) (by decide +kernel))))) (h2 0 (by omega)), adV 0, (h1.1 0 (by omega)).1, (h1.1 0 (by omega)).2.1, (h1.1 0 (by omega)).2.2.1, (h1.1 0 (by omega)).2.2.2⟩
set_option maxRecDepth 100000 in
theorem st_w2 {b : Nat} {s : State} (h : stG b s) (ht : stT b s) : ∃ a : Nat, vk_R "ParetoDeskModel" 314 "weight" a s ∧ StrC [119, 101, 105, 103, 104, 116] a (lw_sA s) s s.heap := by
  have hs := flat_of_before _ h
  obtain ⟨adK, adV, h1, h2⟩ := vk_Sof (args := #[Value.ref b]) (s := s) (N := 1) (tm := fun _ => (Term.string "ParetoDeskModel" 314)) (len := [6]) (byt := [[119, 101, 105, 103, 104, 116]]) (A := lw_sA s) (fun i hi => by
    obtain rfl : i = 0 := by omega
    decide) (fun i hi => hs _ (by decide +kernel)) (fun i hi => hs _ (by decide +kernel)) (fun i hi => hs _ (by decide +kernel)) (fun i hi => by
    obtain rfl : i = 0 := by omega
    exact hs _ (by decide +kernel)) (fun i hi j hj => by
    obtain rfl : i = 0 := by omega
    have hj : j < 6 := hj
    rcases (show j = 0 ∨ j = 1 ∨ j = 2 ∨ j = 3 ∨ j = 4 ∨ j = 5 by omega) with rfl | rfl | rfl | rfl | rfl | rfl <;> exact hs _ (by decide +kernel)) (fun i j hi hj hij => absurd (show i = j by omega) hij) st_hA
  exact ⟨adK 0, vk_R.of (ht _ (List.mem_append_right _ (tw_7 _ (List.mem_of_getElem? (i := 164) (by decide +kernel))))) (h2 0 (by omega)), adV 0, (h1.1 0 (by omega)).1, (h1.1 0 (by omega)).2.1, (h1.1 0 (by omega)).2.2.1, (h1.1 0 (by omega)).2.2.2⟩
set_option maxRecDepth 100000 in
theorem st_w3 {b : Nat} {s : State} (h : stG b s) (ht : stT b s) : ∃ a : Nat, vk_R "ParetoDeskModel" 316 "gain" a s ∧ StrC [103, 97, 105, 110] a (lw_sA s) s s.heap := by
  have hs := flat_of_before _ h
  obtain ⟨adK, adV, h1, h2⟩ := vk_Sof (args := #[Value.ref b]) (s := s) (N := 1) (tm := fun _ => (Term.string "ParetoDeskModel" 316)) (len := [4]) (byt := [[103, 97, 105, 110]]) (A := lw_sA s) (fun i hi => by
    obtain rfl : i = 0 := by omega
    decide) (fun i hi => hs _ (by decide +kernel)) (fun i hi => hs _ (by decide +kernel)) (fun i hi => hs _ (by decide +kernel)) (fun i hi => by
    obtain rfl : i = 0 := by omega
    exact hs _ (by decide +kernel)) (fun i hi j hj => by
    obtain rfl : i = 0 := by omega
    have hj : j < 4 := hj
    rcases (show j = 0 ∨ j = 1 ∨ j = 2 ∨ j = 3 by omega) with rfl | rfl | rfl | rfl <;> exact hs _ (by decide +kernel)) (fun i j hi hj hij => absurd (show i = j by omega) hij) st_hA
  exact ⟨adK 0, vk_R.of (ht _ (List.mem_append_right _ (tw_7 _ (List.mem_of_getElem? (i := 165) (by decide +kernel))))) (h2 0 (by omega)), adV 0, (h1.1 0 (by omega)).1, (h1.1 0 (by omega)).2.1, (h1.1 0 (by omega)).2.2.1, (h1.1 0 (by omega)).2.2.2⟩
set_option maxRecDepth 100000 in
theorem st_w4 {b : Nat} {s : State} (h : stG b s) (ht : stT b s) : ∃ a : Nat, vk_R "ParetoDeskModel" 318 "joy" a s ∧ StrC [106, 111, 121] a (lw_sA s) s s.heap := by
  have hs := flat_of_before _ h
  obtain ⟨adK, adV, h1, h2⟩ := vk_Sof (args := #[Value.ref b]) (s := s) (N := 1) (tm := fun _ => (Term.string "ParetoDeskModel" 318)) (len := [3]) (byt := [[106, 111, 121]]) (A := lw_sA s) (fun i hi => by
    obtain rfl : i = 0 := by omega
    decide) (fun i hi => hs _ (by decide +kernel)) (fun i hi => hs _ (by decide +kernel)) (fun i hi => hs _ (by decide +kernel)) (fun i hi => by
    obtain rfl : i = 0 := by omega
    exact hs _ (by decide +kernel)) (fun i hi j hj => by
    obtain rfl : i = 0 := by omega
    have hj : j < 3 := hj
    rcases (show j = 0 ∨ j = 1 ∨ j = 2 by omega) with rfl | rfl | rfl <;> exact hs _ (by decide +kernel)) (fun i j hi hj hij => absurd (show i = j by omega) hij) st_hA
  exact ⟨adK 0, vk_R.of (ht _ (List.mem_append_right _ (tw_7 _ (List.mem_of_getElem? (i := 166) (by decide +kernel))))) (h2 0 (by omega)), adV 0, (h1.1 0 (by omega)).1, (h1.1 0 (by omega)).2.1, (h1.1 0 (by omega)).2.2.1, (h1.1 0 (by omega)).2.2.2⟩
set_option maxRecDepth 100000 in
theorem st_w5 {b : Nat} {s : State} (h : stG b s) (ht : stT b s) : ∃ a : Nat, vk_R "ParetoDeskModel" 323 "item" a s ∧ StrC [105, 116, 101, 109] a (lw_sA s) s s.heap := by
  have hs := flat_of_before _ h
  obtain ⟨adK, adV, h1, h2⟩ := vk_Sof (args := #[Value.ref b]) (s := s) (N := 1) (tm := fun _ => (Term.string "ParetoDeskModel" 323)) (len := [4]) (byt := [[105, 116, 101, 109]]) (A := lw_sA s) (fun i hi => by
    obtain rfl : i = 0 := by omega
    decide) (fun i hi => hs _ (by decide +kernel)) (fun i hi => hs _ (by decide +kernel)) (fun i hi => hs _ (by decide +kernel)) (fun i hi => by
    obtain rfl : i = 0 := by omega
    exact hs _ (by decide +kernel)) (fun i hi j hj => by
    obtain rfl : i = 0 := by omega
    have hj : j < 4 := hj
    rcases (show j = 0 ∨ j = 1 ∨ j = 2 ∨ j = 3 by omega) with rfl | rfl | rfl | rfl <;> exact hs _ (by decide +kernel)) (fun i j hi hj hij => absurd (show i = j by omega) hij) st_hA
  exact ⟨adK 0, vk_R.of (ht _ (List.mem_append_right _ (tw_7 _ (List.mem_of_getElem? (i := 155) (by decide +kernel))))) (h2 0 (by omega)), adV 0, (h1.1 0 (by omega)).1, (h1.1 0 (by omega)).2.1, (h1.1 0 (by omega)).2.2.1, (h1.1 0 (by omega)).2.2.2⟩
set_option maxRecDepth 100000 in
theorem st_w6 {b : Nat} {s : State} (h : stG b s) (ht : stT b s) : ∃ a : Nat, vk_R "ParetoDeskModel" 328 "bar" a s ∧ StrC [98, 97, 114] a (lw_sA s) s s.heap := by
  have hs := flat_of_before _ h
  obtain ⟨adK, adV, h1, h2⟩ := vk_Sof (args := #[Value.ref b]) (s := s) (N := 1) (tm := fun _ => (Term.string "ParetoDeskModel" 328)) (len := [3]) (byt := [[98, 97, 114]]) (A := lw_sA s) (fun i hi => by
    obtain rfl : i = 0 := by omega
    decide) (fun i hi => hs _ (by decide +kernel)) (fun i hi => hs _ (by decide +kernel)) (fun i hi => hs _ (by decide +kernel)) (fun i hi => by
    obtain rfl : i = 0 := by omega
    exact hs _ (by decide +kernel)) (fun i hi j hj => by
    obtain rfl : i = 0 := by omega
    have hj : j < 3 := hj
    rcases (show j = 0 ∨ j = 1 ∨ j = 2 by omega) with rfl | rfl | rfl <;> exact hs _ (by decide +kernel)) (fun i j hi hj hij => absurd (show i = j by omega) hij) st_hA
  exact ⟨adK 0, vk_R.of (ht _ (List.mem_append_right _ (tw_7 _ (List.mem_of_getElem? (i := 171) (by decide +kernel))))) (h2 0 (by omega)), adV 0, (h1.1 0 (by omega)).1, (h1.1 0 (by omega)).2.1, (h1.1 0 (by omega)).2.2.1, (h1.1 0 (by omega)).2.2.2⟩
set_option maxRecDepth 100000 in
theorem st_w7 {b : Nat} {s : State} (h : stG b s) (ht : stT b s) : ∃ a : Nat, vk_R "ParetoDeskModel" 333 "need" a s ∧ StrC [110, 101, 101, 100] a (lw_sA s) s s.heap := by
  have hs := flat_of_before _ h
  obtain ⟨adK, adV, h1, h2⟩ := vk_Sof (args := #[Value.ref b]) (s := s) (N := 1) (tm := fun _ => (Term.string "ParetoDeskModel" 333)) (len := [4]) (byt := [[110, 101, 101, 100]]) (A := lw_sA s) (fun i hi => by
    obtain rfl : i = 0 := by omega
    decide) (fun i hi => hs _ (by decide +kernel)) (fun i hi => hs _ (by decide +kernel)) (fun i hi => hs _ (by decide +kernel)) (fun i hi => by
    obtain rfl : i = 0 := by omega
    exact hs _ (by decide +kernel)) (fun i hi j hj => by
    obtain rfl : i = 0 := by omega
    have hj : j < 4 := hj
    rcases (show j = 0 ∨ j = 1 ∨ j = 2 ∨ j = 3 by omega) with rfl | rfl | rfl | rfl <;> exact hs _ (by decide +kernel)) (fun i j hi hj hij => absurd (show i = j by omega) hij) st_hA
  exact ⟨adK 0, vk_R.of (ht _ (List.mem_append_right _ (tw_7 _ (List.mem_of_getElem? (i := 183) (by decide +kernel))))) (h2 0 (by omega)), adV 0, (h1.1 0 (by omega)).1, (h1.1 0 (by omega)).2.1, (h1.1 0 (by omega)).2.2.1, (h1.1 0 (by omega)).2.2.2⟩
set_option maxRecDepth 100000 in
theorem st_w8 {b : Nat} {s : State} (h : stG b s) (ht : stT b s) : ∃ a : Nat, vk_R "ParetoDeskModel" 335 "must" a s ∧ StrC [109, 117, 115, 116] a (lw_sA s) s s.heap := by
  have hs := flat_of_before _ h
  obtain ⟨adK, adV, h1, h2⟩ := vk_Sof (args := #[Value.ref b]) (s := s) (N := 1) (tm := fun _ => (Term.string "ParetoDeskModel" 335)) (len := [4]) (byt := [[109, 117, 115, 116]]) (A := lw_sA s) (fun i hi => by
    obtain rfl : i = 0 := by omega
    decide) (fun i hi => hs _ (by decide +kernel)) (fun i hi => hs _ (by decide +kernel)) (fun i hi => hs _ (by decide +kernel)) (fun i hi => by
    obtain rfl : i = 0 := by omega
    exact hs _ (by decide +kernel)) (fun i hi j hj => by
    obtain rfl : i = 0 := by omega
    have hj : j < 4 := hj
    rcases (show j = 0 ∨ j = 1 ∨ j = 2 ∨ j = 3 by omega) with rfl | rfl | rfl | rfl <;> exact hs _ (by decide +kernel)) (fun i j hi hj hij => absurd (show i = j by omega) hij) st_hA
  exact ⟨adK 0, vk_R.of (ht _ (List.mem_append_right _ (tw_7 _ (List.mem_of_getElem? (i := 184) (by decide +kernel))))) (h2 0 (by omega)), adV 0, (h1.1 0 (by omega)).1, (h1.1 0 (by omega)).2.1, (h1.1 0 (by omega)).2.2.1, (h1.1 0 (by omega)).2.2.2⟩
set_option maxRecDepth 100000 in
theorem st_w9 {b : Nat} {s : State} (h : stG b s) (ht : stT b s) : ∃ a : Nat, vk_R "ParetoDeskModel" 340 "never" a s ∧ StrC [110, 101, 118, 101, 114] a (lw_sA s) s s.heap := by
  have hs := flat_of_before _ h
  obtain ⟨adK, adV, h1, h2⟩ := vk_Sof (args := #[Value.ref b]) (s := s) (N := 1) (tm := fun _ => (Term.string "ParetoDeskModel" 340)) (len := [5]) (byt := [[110, 101, 118, 101, 114]]) (A := lw_sA s) (fun i hi => by
    obtain rfl : i = 0 := by omega
    decide) (fun i hi => hs _ (by decide +kernel)) (fun i hi => hs _ (by decide +kernel)) (fun i hi => hs _ (by decide +kernel)) (fun i hi => by
    obtain rfl : i = 0 := by omega
    exact hs _ (by decide +kernel)) (fun i hi j hj => by
    obtain rfl : i = 0 := by omega
    have hj : j < 5 := hj
    rcases (show j = 0 ∨ j = 1 ∨ j = 2 ∨ j = 3 ∨ j = 4 by omega) with rfl | rfl | rfl | rfl | rfl <;> exact hs _ (by decide +kernel)) (fun i j hi hj hij => absurd (show i = j by omega) hij) st_hA
  exact ⟨adK 0, vk_R.of (ht _ (List.mem_append_right _ (tw_7 _ (List.mem_of_getElem? (i := 189) (by decide +kernel))))) (h2 0 (by omega)), adV 0, (h1.1 0 (by omega)).1, (h1.1 0 (by omega)).2.1, (h1.1 0 (by omega)).2.2.1, (h1.1 0 (by omega)).2.2.2⟩
set_option maxRecDepth 100000 in
theorem st_w10 {b : Nat} {s : State} (h : stG b s) (ht : stT b s) : ∃ a : Nat, vk_R "ParetoDesk$Parser" 97 "capacity" a s ∧ StrC [99, 97, 112, 97, 99, 105, 116, 121] a (lw_sA s) s s.heap := by
  have hs := flat_of_before _ h
  obtain ⟨adK, adV, h1, h2⟩ := vk_Sof (args := #[Value.ref b]) (s := s) (N := 1) (tm := fun _ => (Term.string "ParetoDesk$Parser" 97)) (len := [8]) (byt := [[99, 97, 112, 97, 99, 105, 116, 121]]) (A := lw_sA s) (fun i hi => by
    obtain rfl : i = 0 := by omega
    decide) (fun i hi => hs _ (by decide +kernel)) (fun i hi => hs _ (by decide +kernel)) (fun i hi => hs _ (by decide +kernel)) (fun i hi => by
    obtain rfl : i = 0 := by omega
    exact hs _ (by decide +kernel)) (fun i hi j hj => by
    obtain rfl : i = 0 := by omega
    have hj : j < 8 := hj
    rcases (show j = 0 ∨ j = 1 ∨ j = 2 ∨ j = 3 ∨ j = 4 ∨ j = 5 ∨ j = 6 ∨ j = 7 by omega) with rfl | rfl | rfl | rfl | rfl | rfl | rfl | rfl <;> exact hs _ (by decide +kernel)) (fun i j hi hj hij => absurd (show i = j by omega) hij) st_hA
  exact ⟨adK 0, vk_R.of (ht _ (List.mem_append_right _ (tw_2 _ (List.mem_of_getElem? (i := 232) (by decide +kernel))))) (h2 0 (by omega)), adV 0, (h1.1 0 (by omega)).1, (h1.1 0 (by omega)).2.1, (h1.1 0 (by omega)).2.2.1, (h1.1 0 (by omega)).2.2.2⟩
set_option maxRecDepth 100000 in
theorem st_w11 {b : Nat} {s : State} (h : stG b s) (ht : stT b s) : ∃ a : Nat, vk_R "ParetoDesk$Parser" 108 "limit" a s ∧ StrC [108, 105, 109, 105, 116] a (lw_sA s) s s.heap := by
  have hs := flat_of_before _ h
  obtain ⟨adK, adV, h1, h2⟩ := vk_Sof (args := #[Value.ref b]) (s := s) (N := 1) (tm := fun _ => (Term.string "ParetoDesk$Parser" 108)) (len := [5]) (byt := [[108, 105, 109, 105, 116]]) (A := lw_sA s) (fun i hi => by
    obtain rfl : i = 0 := by omega
    decide) (fun i hi => hs _ (by decide +kernel)) (fun i hi => hs _ (by decide +kernel)) (fun i hi => hs _ (by decide +kernel)) (fun i hi => by
    obtain rfl : i = 0 := by omega
    exact hs _ (by decide +kernel)) (fun i hi j hj => by
    obtain rfl : i = 0 := by omega
    have hj : j < 5 := hj
    rcases (show j = 0 ∨ j = 1 ∨ j = 2 ∨ j = 3 ∨ j = 4 by omega) with rfl | rfl | rfl | rfl | rfl <;> exact hs _ (by decide +kernel)) (fun i j hi hj hij => absurd (show i = j by omega) hij) st_hA
  exact ⟨adK 0, vk_R.of (ht _ (List.mem_append_right _ (tw_3 _ (List.mem_of_getElem? (i := 61) (by decide +kernel))))) (h2 0 (by omega)), adV 0, (h1.1 0 (by omega)).1, (h1.1 0 (by omega)).2.1, (h1.1 0 (by omega)).2.2.1, (h1.1 0 (by omega)).2.2.2⟩
set_option maxRecDepth 100000 in
theorem st_w12 {b : Nat} {s : State} (h : stG b s) (ht : stT b s) : ∃ a : Nat, vk_R "ParetoDesk$Parser" 115 "item" a s ∧ StrC [105, 116, 101, 109] a (lw_sA s) s s.heap := by
  have hs := flat_of_before _ h
  obtain ⟨adK, adV, h1, h2⟩ := vk_Sof (args := #[Value.ref b]) (s := s) (N := 1) (tm := fun _ => (Term.string "ParetoDesk$Parser" 115)) (len := [4]) (byt := [[105, 116, 101, 109]]) (A := lw_sA s) (fun i hi => by
    obtain rfl : i = 0 := by omega
    decide) (fun i hi => hs _ (by decide +kernel)) (fun i hi => hs _ (by decide +kernel)) (fun i hi => hs _ (by decide +kernel)) (fun i hi => by
    obtain rfl : i = 0 := by omega
    exact hs _ (by decide +kernel)) (fun i hi j hj => by
    obtain rfl : i = 0 := by omega
    have hj : j < 4 := hj
    rcases (show j = 0 ∨ j = 1 ∨ j = 2 ∨ j = 3 by omega) with rfl | rfl | rfl | rfl <;> exact hs _ (by decide +kernel)) (fun i j hi hj hij => absurd (show i = j by omega) hij) st_hA
  exact ⟨adK 0, vk_R.of (ht _ (List.mem_append_right _ (tw_3 _ (List.mem_of_getElem? (i := 70) (by decide +kernel))))) (h2 0 (by omega)), adV 0, (h1.1 0 (by omega)).1, (h1.1 0 (by omega)).2.1, (h1.1 0 (by omega)).2.2.1, (h1.1 0 (by omega)).2.2.2⟩
set_option maxRecDepth 100000 in
theorem st_w13 {b : Nat} {s : State} (h : stG b s) (ht : stT b s) : ∃ a : Nat, vk_R "ParetoDesk$Parser" 120 "bar" a s ∧ StrC [98, 97, 114] a (lw_sA s) s s.heap := by
  have hs := flat_of_before _ h
  obtain ⟨adK, adV, h1, h2⟩ := vk_Sof (args := #[Value.ref b]) (s := s) (N := 1) (tm := fun _ => (Term.string "ParetoDesk$Parser" 120)) (len := [3]) (byt := [[98, 97, 114]]) (A := lw_sA s) (fun i hi => by
    obtain rfl : i = 0 := by omega
    decide) (fun i hi => hs _ (by decide +kernel)) (fun i hi => hs _ (by decide +kernel)) (fun i hi => hs _ (by decide +kernel)) (fun i hi => by
    obtain rfl : i = 0 := by omega
    exact hs _ (by decide +kernel)) (fun i hi j hj => by
    obtain rfl : i = 0 := by omega
    have hj : j < 3 := hj
    rcases (show j = 0 ∨ j = 1 ∨ j = 2 by omega) with rfl | rfl | rfl <;> exact hs _ (by decide +kernel)) (fun i j hi hj hij => absurd (show i = j by omega) hij) st_hA
  exact ⟨adK 0, vk_R.of (ht _ (List.mem_append_right _ (tw_3 _ (List.mem_of_getElem? (i := 82) (by decide +kernel))))) (h2 0 (by omega)), adV 0, (h1.1 0 (by omega)).1, (h1.1 0 (by omega)).2.1, (h1.1 0 (by omega)).2.2.1, (h1.1 0 (by omega)).2.2.2⟩
set_option maxRecDepth 100000 in
theorem st_w14 {b : Nat} {s : State} (h : stG b s) (ht : stT b s) : ∃ a : Nat, vk_R "ParetoDesk$Parser" 122 "need" a s ∧ StrC [110, 101, 101, 100] a (lw_sA s) s s.heap := by
  have hs := flat_of_before _ h
  obtain ⟨adK, adV, h1, h2⟩ := vk_Sof (args := #[Value.ref b]) (s := s) (N := 1) (tm := fun _ => (Term.string "ParetoDesk$Parser" 122)) (len := [4]) (byt := [[110, 101, 101, 100]]) (A := lw_sA s) (fun i hi => by
    obtain rfl : i = 0 := by omega
    decide) (fun i hi => hs _ (by decide +kernel)) (fun i hi => hs _ (by decide +kernel)) (fun i hi => hs _ (by decide +kernel)) (fun i hi => by
    obtain rfl : i = 0 := by omega
    exact hs _ (by decide +kernel)) (fun i hi j hj => by
    obtain rfl : i = 0 := by omega
    have hj : j < 4 := hj
    rcases (show j = 0 ∨ j = 1 ∨ j = 2 ∨ j = 3 by omega) with rfl | rfl | rfl | rfl <;> exact hs _ (by decide +kernel)) (fun i j hi hj hij => absurd (show i = j by omega) hij) st_hA
  exact ⟨adK 0, vk_R.of (ht _ (List.mem_append_right _ (tw_3 _ (List.mem_of_getElem? (i := 83) (by decide +kernel))))) (h2 0 (by omega)), adV 0, (h1.1 0 (by omega)).1, (h1.1 0 (by omega)).2.1, (h1.1 0 (by omega)).2.2.1, (h1.1 0 (by omega)).2.2.2⟩
set_option maxRecDepth 100000 in
theorem st_w15 {b : Nat} {s : State} (h : stG b s) (ht : stT b s) : ∃ a : Nat, vk_R "ParetoDesk$Parser" 128 "must" a s ∧ StrC [109, 117, 115, 116] a (lw_sA s) s s.heap := by
  have hs := flat_of_before _ h
  obtain ⟨adK, adV, h1, h2⟩ := vk_Sof (args := #[Value.ref b]) (s := s) (N := 1) (tm := fun _ => (Term.string "ParetoDesk$Parser" 128)) (len := [4]) (byt := [[109, 117, 115, 116]]) (A := lw_sA s) (fun i hi => by
    obtain rfl : i = 0 := by omega
    decide) (fun i hi => hs _ (by decide +kernel)) (fun i hi => hs _ (by decide +kernel)) (fun i hi => hs _ (by decide +kernel)) (fun i hi => by
    obtain rfl : i = 0 := by omega
    exact hs _ (by decide +kernel)) (fun i hi j hj => by
    obtain rfl : i = 0 := by omega
    have hj : j < 4 := hj
    rcases (show j = 0 ∨ j = 1 ∨ j = 2 ∨ j = 3 by omega) with rfl | rfl | rfl | rfl <;> exact hs _ (by decide +kernel)) (fun i j hi hj hij => absurd (show i = j by omega) hij) st_hA
  exact ⟨adK 0, vk_R.of (ht _ (List.mem_append_right _ (tw_3 _ (List.mem_of_getElem? (i := 94) (by decide +kernel))))) (h2 0 (by omega)), adV 0, (h1.1 0 (by omega)).1, (h1.1 0 (by omega)).2.1, (h1.1 0 (by omega)).2.2.1, (h1.1 0 (by omega)).2.2.2⟩
set_option maxRecDepth 100000 in
theorem st_w16 {b : Nat} {s : State} (h : stG b s) (ht : stT b s) : ∃ a : Nat, vk_R "ParetoDesk$Parser" 130 "never" a s ∧ StrC [110, 101, 118, 101, 114] a (lw_sA s) s s.heap := by
  have hs := flat_of_before _ h
  obtain ⟨adK, adV, h1, h2⟩ := vk_Sof (args := #[Value.ref b]) (s := s) (N := 1) (tm := fun _ => (Term.string "ParetoDesk$Parser" 130)) (len := [5]) (byt := [[110, 101, 118, 101, 114]]) (A := lw_sA s) (fun i hi => by
    obtain rfl : i = 0 := by omega
    decide) (fun i hi => hs _ (by decide +kernel)) (fun i hi => hs _ (by decide +kernel)) (fun i hi => hs _ (by decide +kernel)) (fun i hi => by
    obtain rfl : i = 0 := by omega
    exact hs _ (by decide +kernel)) (fun i hi j hj => by
    obtain rfl : i = 0 := by omega
    have hj : j < 5 := hj
    rcases (show j = 0 ∨ j = 1 ∨ j = 2 ∨ j = 3 ∨ j = 4 by omega) with rfl | rfl | rfl | rfl | rfl <;> exact hs _ (by decide +kernel)) (fun i j hi hj hij => absurd (show i = j by omega) hij) st_hA
  exact ⟨adK 0, vk_R.of (ht _ (List.mem_append_right _ (tw_3 _ (List.mem_of_getElem? (i := 95) (by decide +kernel))))) (h2 0 (by omega)), adV 0, (h1.1 0 (by omega)).1, (h1.1 0 (by omega)).2.1, (h1.1 0 (by omega)).2.2.1, (h1.1 0 (by omega)).2.2.2⟩
set_option maxRecDepth 100000 in
theorem st_w17 {b : Nat} {s : State} (h : stG b s) (ht : stT b s) : ∃ a : Nat, vk_R "ParetoDesk$Parser" 138 "weight" a s ∧ StrC [119, 101, 105, 103, 104, 116] a (lw_sA s) s s.heap := by
  have hs := flat_of_before _ h
  obtain ⟨adK, adV, h1, h2⟩ := vk_Sof (args := #[Value.ref b]) (s := s) (N := 1) (tm := fun _ => (Term.string "ParetoDesk$Parser" 138)) (len := [6]) (byt := [[119, 101, 105, 103, 104, 116]]) (A := lw_sA s) (fun i hi => by
    obtain rfl : i = 0 := by omega
    decide) (fun i hi => hs _ (by decide +kernel)) (fun i hi => hs _ (by decide +kernel)) (fun i hi => hs _ (by decide +kernel)) (fun i hi => by
    obtain rfl : i = 0 := by omega
    exact hs _ (by decide +kernel)) (fun i hi j hj => by
    obtain rfl : i = 0 := by omega
    have hj : j < 6 := hj
    rcases (show j = 0 ∨ j = 1 ∨ j = 2 ∨ j = 3 ∨ j = 4 ∨ j = 5 by omega) with rfl | rfl | rfl | rfl | rfl | rfl <;> exact hs _ (by decide +kernel)) (fun i j hi hj hij => absurd (show i = j by omega) hij) st_hA
  exact ⟨adK 0, vk_R.of (ht _ (List.mem_append_right _ (tw_3 _ (List.mem_of_getElem? (i := 75) (by decide +kernel))))) (h2 0 (by omega)), adV 0, (h1.1 0 (by omega)).1, (h1.1 0 (by omega)).2.1, (h1.1 0 (by omega)).2.2.1, (h1.1 0 (by omega)).2.2.2⟩
set_option maxRecDepth 100000 in
theorem st_w18 {b : Nat} {s : State} (h : stG b s) (ht : stT b s) : ∃ a : Nat, vk_R "ParetoDesk$Parser" 140 "gain" a s ∧ StrC [103, 97, 105, 110] a (lw_sA s) s s.heap := by
  have hs := flat_of_before _ h
  obtain ⟨adK, adV, h1, h2⟩ := vk_Sof (args := #[Value.ref b]) (s := s) (N := 1) (tm := fun _ => (Term.string "ParetoDesk$Parser" 140)) (len := [4]) (byt := [[103, 97, 105, 110]]) (A := lw_sA s) (fun i hi => by
    obtain rfl : i = 0 := by omega
    decide) (fun i hi => hs _ (by decide +kernel)) (fun i hi => hs _ (by decide +kernel)) (fun i hi => hs _ (by decide +kernel)) (fun i hi => by
    obtain rfl : i = 0 := by omega
    exact hs _ (by decide +kernel)) (fun i hi j hj => by
    obtain rfl : i = 0 := by omega
    have hj : j < 4 := hj
    rcases (show j = 0 ∨ j = 1 ∨ j = 2 ∨ j = 3 by omega) with rfl | rfl | rfl | rfl <;> exact hs _ (by decide +kernel)) (fun i j hi hj hij => absurd (show i = j by omega) hij) st_hA
  exact ⟨adK 0, vk_R.of (ht _ (List.mem_append_right _ (tw_3 _ (List.mem_of_getElem? (i := 76) (by decide +kernel))))) (h2 0 (by omega)), adV 0, (h1.1 0 (by omega)).1, (h1.1 0 (by omega)).2.1, (h1.1 0 (by omega)).2.2.1, (h1.1 0 (by omega)).2.2.2⟩
set_option maxRecDepth 100000 in
theorem st_w19 {b : Nat} {s : State} (h : stG b s) (ht : stT b s) : ∃ a : Nat, vk_R "ParetoDesk$Parser" 142 "joy" a s ∧ StrC [106, 111, 121] a (lw_sA s) s s.heap := by
  have hs := flat_of_before _ h
  obtain ⟨adK, adV, h1, h2⟩ := vk_Sof (args := #[Value.ref b]) (s := s) (N := 1) (tm := fun _ => (Term.string "ParetoDesk$Parser" 142)) (len := [3]) (byt := [[106, 111, 121]]) (A := lw_sA s) (fun i hi => by
    obtain rfl : i = 0 := by omega
    decide) (fun i hi => hs _ (by decide +kernel)) (fun i hi => hs _ (by decide +kernel)) (fun i hi => hs _ (by decide +kernel)) (fun i hi => by
    obtain rfl : i = 0 := by omega
    exact hs _ (by decide +kernel)) (fun i hi j hj => by
    obtain rfl : i = 0 := by omega
    have hj : j < 3 := hj
    rcases (show j = 0 ∨ j = 1 ∨ j = 2 by omega) with rfl | rfl | rfl <;> exact hs _ (by decide +kernel)) (fun i j hi hj hij => absurd (show i = j by omega) hij) st_hA
  exact ⟨adK 0, vk_R.of (ht _ (List.mem_append_right _ (tw_3 _ (List.mem_of_getElem? (i := 77) (by decide +kernel))))) (h2 0 (by omega)), adV 0, (h1.1 0 (by omega)).1, (h1.1 0 (by omega)).2.1, (h1.1 0 (by omega)).2.2.1, (h1.1 0 (by omega)).2.2.2⟩
theorem st_m0 {b : Nat} {s : State} (h : stG b s) (ht : stT b s) : ∃ a : Nat, vk_R RX10 100 "the input buffer is full" a s := by
  have hs := flat_of_before _ h
  obtain ⟨a, c, cA, kA, q1, -⟩ := Cond.exactly_spec (args := #[Value.ref b]) (first := s) (o := none) (s := s) (idx := []) (t := Term.string RX10 100) (cls := "java/lang/String") (hs _ (by decide +kernel))
  exact ⟨a, vk_R.of (ht _ (List.mem_append_right _ (tw_4 _ (List.mem_of_getElem? (i := 181) (by decide +kernel))))) q1⟩
theorem st_m1 {b : Nat} {s : State} (h : stG b s) (ht : stT b s) : ∃ a : Nat, vk_R RX10 111 "no such length" a s := by
  have hs := flat_of_before _ h
  obtain ⟨a, c, cA, kA, q1, -⟩ := Cond.exactly_spec (args := #[Value.ref b]) (first := s) (o := none) (s := s) (idx := []) (t := Term.string RX10 111) (cls := "java/lang/String") (hs _ (by decide +kernel))
  exact ⟨a, vk_R.of (ht _ (List.mem_append_right _ (tw_4 _ (List.mem_of_getElem? (i := 228) (by decide +kernel))))) q1⟩
theorem st_m2 {b : Nat} {s : State} (h : stG b s) (ht : stT b s) : ∃ a : Nat, vk_R RX10 242 "no such vertex" a s := by
  have hs := flat_of_before _ h
  obtain ⟨a, c, cA, kA, q1, -⟩ := Cond.exactly_spec (args := #[Value.ref b]) (first := s) (o := none) (s := s) (idx := []) (t := Term.string RX10 242) (cls := "java/lang/String") (hs _ (by decide +kernel))
  exact ⟨a, vk_R.of (ht _ (List.mem_append_right _ (tw_5 _ (List.mem_of_getElem? (i := 134) (by decide +kernel))))) q1⟩
theorem st_m3 {b : Nat} {s : State} (h : stG b s) (ht : stT b s) : ∃ a : Nat, vk_R RX10 251 "no such box" a s := by
  have hs := flat_of_before _ h
  obtain ⟨a, c, cA, kA, q1, -⟩ := Cond.exactly_spec (args := #[Value.ref b]) (first := s) (o := none) (s := s) (idx := []) (t := Term.string RX10 251) (cls := "java/lang/String") (hs _ (by decide +kernel))
  exact ⟨a, vk_R.of (ht _ (List.mem_append_right _ (tw_5 _ (List.mem_of_getElem? (i := 142) (by decide +kernel))))) q1⟩
theorem st_m4 {b : Nat} {s : State} (h : stG b s) (ht : stT b s) : ∃ a : Nat, vk_R RX10 261 "no such step" a s := by
  have hs := flat_of_before _ h
  obtain ⟨a, c, cA, kA, q1, -⟩ := Cond.exactly_spec (args := #[Value.ref b]) (first := s) (o := none) (s := s) (idx := []) (t := Term.string RX10 261) (cls := "java/lang/String") (hs _ (by decide +kernel))
  exact ⟨a, vk_R.of (ht _ (List.mem_append_right _ (tw_5 _ (List.mem_of_getElem? (i := 160) (by decide +kernel))))) q1⟩
theorem st_m5 {b : Nat} {s : State} (h : stG b s) (ht : stT b s) : ∃ a : Nat, vk_R RX10 316 "no such layer" a s := by
  have hs := flat_of_before _ h
  obtain ⟨a, c, cA, kA, q1, -⟩ := Cond.exactly_spec (args := #[Value.ref b]) (first := s) (o := none) (s := s) (idx := []) (t := Term.string RX10 316) (cls := "java/lang/String") (hs _ (by decide +kernel))
  exact ⟨a, vk_R.of (ht _ (List.mem_append_right _ (tw_5 _ (List.mem_of_getElem? (i := 223) (by decide +kernel))))) q1⟩
theorem st_m6 {b : Nat} {s : State} (h : stG b s) (ht : stT b s) : ∃ a : Nat, vk_R RX10 333 "there are 12 items" a s := by
  have hs := flat_of_before _ h
  obtain ⟨a, c, cA, kA, q1, -⟩ := Cond.exactly_spec (args := #[Value.ref b]) (first := s) (o := none) (s := s) (idx := []) (t := Term.string RX10 333) (cls := "java/lang/String") (hs _ (by decide +kernel))
  exact ⟨a, vk_R.of (ht _ (List.mem_append_right _ (tw_6 _ (List.mem_of_getElem? (i := 22) (by decide +kernel))))) q1⟩
theorem st_m7 {b : Nat} {s : State} (h : stG b s) (ht : stT b s) : ∃ a : Nat, vk_R RX10 342 "no such limit" a s := by
  have hs := flat_of_before _ h
  obtain ⟨a, c, cA, kA, q1, -⟩ := Cond.exactly_spec (args := #[Value.ref b]) (first := s) (o := none) (s := s) (idx := []) (t := Term.string RX10 342) (cls := "java/lang/String") (hs _ (by decide +kernel))
  exact ⟨a, vk_R.of (ht _ (List.mem_append_right _ (tw_6 _ (List.mem_of_getElem? (i := 59) (by decide +kernel))))) q1⟩
theorem st_m8 {b : Nat} {s : State} (h : stG b s) (ht : stT b s) : ∃ a : Nat, vk_R RX10 361 "there are no points" a s := by
  have hs := flat_of_before _ h
  obtain ⟨a, c, cA, kA, q1, -⟩ := Cond.exactly_spec (args := #[Value.ref b]) (first := s) (o := none) (s := s) (idx := []) (t := Term.string RX10 361) (cls := "java/lang/String") (hs _ (by decide +kernel))
  exact ⟨a, vk_R.of (ht _ (List.mem_append_right _ (tw_6 _ (List.mem_of_getElem? (i := 117) (by decide +kernel))))) q1⟩
theorem st_m9 {b : Nat} {s : State} (h : stG b s) (ht : stT b s) : ∃ a : Nat, vk_R RX10 366 "the choice at hand has this item" a s := by
  have hs := flat_of_before _ h
  obtain ⟨a, c, cA, kA, q1, -⟩ := Cond.exactly_spec (args := #[Value.ref b]) (first := s) (o := none) (s := s) (idx := []) (t := Term.string RX10 366) (cls := "java/lang/String") (hs _ (by decide +kernel))
  exact ⟨a, vk_R.of (ht _ (List.mem_append_right _ (tw_6 _ (List.mem_of_getElem? (i := 132) (by decide +kernel))))) q1⟩
theorem st_m10 {b : Nat} {s : State} (h : stG b s) (ht : stT b s) : ∃ a : Nat, vk_R RX10 368 "the choice at hand does not have this item" a s := by
  have hs := flat_of_before _ h
  obtain ⟨a, c, cA, kA, q1, -⟩ := Cond.exactly_spec (args := #[Value.ref b]) (first := s) (o := none) (s := s) (idx := []) (t := Term.string RX10 368) (cls := "java/lang/String") (hs _ (by decide +kernel))
  exact ⟨a, vk_R.of (ht _ (List.mem_append_right _ (tw_6 _ (List.mem_of_getElem? (i := 140) (by decide +kernel))))) q1⟩
theorem st_m11 {b : Nat} {s : State} (h : stG b s) (ht : stT b s) : ∃ a : Nat, vk_R RX10 373 "nothing is kept there" a s := by
  have hs := flat_of_before _ h
  obtain ⟨a, c, cA, kA, q1, -⟩ := Cond.exactly_spec (args := #[Value.ref b]) (first := s) (o := none) (s := s) (idx := []) (t := Term.string RX10 373) (cls := "java/lang/String") (hs _ (by decide +kernel))
  exact ⟨a, vk_R.of (ht _ (List.mem_append_right _ (tw_6 _ (List.mem_of_getElem? (i := 159) (by decide +kernel))))) q1⟩
theorem st_m12 {b : Nat} {s : State} (h : stG b s) (ht : stT b s) : ∃ a : Nat, vk_R RX10 376 "there is nothing to undo" a s := by
  have hs := flat_of_before _ h
  obtain ⟨a, c, cA, kA, q1, -⟩ := Cond.exactly_spec (args := #[Value.ref b]) (first := s) (o := none) (s := s) (idx := []) (t := Term.string RX10 376) (cls := "java/lang/String") (hs _ (by decide +kernel))
  exact ⟨a, vk_R.of (ht _ (List.mem_append_right _ (tw_6 _ (List.mem_of_getElem? (i := 167) (by decide +kernel))))) q1⟩
theorem st_m13 {b : Nat} {s : State} (h : stG b s) (ht : stT b s) : ∃ a : Nat, vk_R RX10 390 "no such byte" a s := by
  have hs := flat_of_before _ h
  obtain ⟨a, c, cA, kA, q1, -⟩ := Cond.exactly_spec (args := #[Value.ref b]) (first := s) (o := none) (s := s) (idx := []) (t := Term.string RX10 390) (cls := "java/lang/String") (hs _ (by decide +kernel))
  exact ⟨a, vk_R.of (ht _ (List.mem_append_right _ (tw_6 _ (List.mem_of_getElem? (i := 179) (by decide +kernel))))) q1⟩
theorem st_m14 {b : Nat} {s : State} (h : stG b s) (ht : stT b s) : ∃ a : Nat, vk_R RX10 420 "no such item" a s := by
  have hs := flat_of_before _ h
  obtain ⟨a, c, cA, kA, q1, -⟩ := Cond.exactly_spec (args := #[Value.ref b]) (first := s) (o := none) (s := s) (idx := []) (t := Term.string RX10 420) (cls := "java/lang/String") (hs _ (by decide +kernel))
  exact ⟨a, vk_R.of (ht _ (List.mem_append_right _ (tw_5 _ (List.mem_of_getElem? (i := 36) (by decide +kernel))))) q1⟩
theorem st_m15 {b : Nat} {s : State} (h : stG b s) (ht : stT b s) : ∃ a : Nat, vk_R RX10 422 "both are the same item" a s := by
  have hs := flat_of_before _ h
  obtain ⟨a, c, cA, kA, q1, -⟩ := Cond.exactly_spec (args := #[Value.ref b]) (first := s) (o := none) (s := s) (idx := []) (t := Term.string RX10 422) (cls := "java/lang/String") (hs _ (by decide +kernel))
  exact ⟨a, vk_R.of (ht _ (List.mem_append_right _ (tw_6 _ (List.mem_of_getElem? (i := 71) (by decide +kernel))))) q1⟩
theorem st_m16 {b : Nat} {s : State} (h : stG b s) (ht : stT b s) : ∃ a : Nat, vk_R RX10 424 "no such set" a s := by
  have hs := flat_of_before _ h
  obtain ⟨a, c, cA, kA, q1, -⟩ := Cond.exactly_spec (args := #[Value.ref b]) (first := s) (o := none) (s := s) (idx := []) (t := Term.string RX10 424) (cls := "java/lang/String") (hs _ (by decide +kernel))
  exact ⟨a, vk_R.of (ht _ (List.mem_append_right _ (tw_5 _ (List.mem_of_getElem? (i := 54) (by decide +kernel))))) q1⟩
theorem st_m17 {b : Nat} {s : State} (h : stG b s) (ht : stT b s) : ∃ a : Nat, vk_R RX10 426 "the choice is refused" a s := by
  have hs := flat_of_before _ h
  obtain ⟨a, c, cA, kA, q1, -⟩ := Cond.exactly_spec (args := #[Value.ref b]) (first := s) (o := none) (s := s) (idx := []) (t := Term.string RX10 426) (cls := "java/lang/String") (hs _ (by decide +kernel))
  exact ⟨a, vk_R.of (ht _ (List.mem_append_right _ (tw_6 _ (List.mem_of_getElem? (i := 105) (by decide +kernel))))) q1⟩
theorem st_m18 {b : Nat} {s : State} (h : stG b s) (ht : stT b s) : ∃ a : Nat, vk_R RX10 428 "no such point" a s := by
  have hs := flat_of_before _ h
  obtain ⟨a, c, cA, kA, q1, -⟩ := Cond.exactly_spec (args := #[Value.ref b]) (first := s) (o := none) (s := s) (idx := []) (t := Term.string RX10 428) (cls := "java/lang/String") (hs _ (by decide +kernel))
  exact ⟨a, vk_R.of (ht _ (List.mem_append_right _ (tw_5 _ (List.mem_of_getElem? (i := 74) (by decide +kernel))))) q1⟩
theorem st_m19 {b : Nat} {s : State} (h : stG b s) (ht : stT b s) : ∃ a : Nat, vk_R RX10 430 "no such slot" a s := by
  have hs := flat_of_before _ h
  obtain ⟨a, c, cA, kA, q1, -⟩ := Cond.exactly_spec (args := #[Value.ref b]) (first := s) (o := none) (s := s) (idx := []) (t := Term.string RX10 430) (cls := "java/lang/String") (hs _ (by decide +kernel))
  exact ⟨a, vk_R.of (ht _ (List.mem_append_right _ (tw_6 _ (List.mem_of_getElem? (i := 151) (by decide +kernel))))) q1⟩
theorem st_m20 {b : Nat} {s : State} (h : stG b s) (ht : stT b s) : ∃ a : Nat, vk_R RX10 432 "no such number is told" a s := by
  have hs := flat_of_before _ h
  obtain ⟨a, c, cA, kA, q1, -⟩ := Cond.exactly_spec (args := #[Value.ref b]) (first := s) (o := none) (s := s) (idx := []) (t := Term.string RX10 432) (cls := "java/lang/String") (hs _ (by decide +kernel))
  exact ⟨a, vk_R.of (ht _ (List.mem_append_right _ (tw_5 _ (List.mem_of_getElem? (i := 5) (by decide +kernel))))) q1⟩
theorem st_m21 {b : Nat} {s : State} (h : stG b s) (ht : stT b s) : ∃ a : Nat, vk_R RX10 434 "the value is out of range" a s := by
  have hs := flat_of_before _ h
  obtain ⟨a, c, cA, kA, q1, -⟩ := Cond.exactly_spec (args := #[Value.ref b]) (first := s) (o := none) (s := s) (idx := []) (t := Term.string RX10 434) (cls := "java/lang/String") (hs _ (by decide +kernel))
  exact ⟨a, vk_R.of (ht _ (List.mem_append_right _ (tw_5 _ (List.mem_of_getElem? (i := 110) (by decide +kernel))))) q1⟩
theorem st_m22 {b : Nat} {s : State} (h : stG b s) (ht : stT b s) : ∃ a : Nat, vk_R RX10 436 "no such capacity" a s := by
  have hs := flat_of_before _ h
  obtain ⟨a, c, cA, kA, q1, -⟩ := Cond.exactly_spec (args := #[Value.ref b]) (first := s) (o := none) (s := s) (idx := []) (t := Term.string RX10 436) (cls := "java/lang/String") (hs _ (by decide +kernel))
  exact ⟨a, vk_R.of (ht _ (List.mem_append_right _ (tw_5 _ (List.mem_of_getElem? (i := 196) (by decide +kernel))))) q1⟩
theorem st_m23 {b : Nat} {s : State} (h : stG b s) (ht : stT b s) : ∃ a : Nat, vk_R RX10 438 "both weights are 0" a s := by
  have hs := flat_of_before _ h
  obtain ⟨a, c, cA, kA, q1, -⟩ := Cond.exactly_spec (args := #[Value.ref b]) (first := s) (o := none) (s := s) (idx := []) (t := Term.string RX10 438) (cls := "java/lang/String") (hs _ (by decide +kernel))
  exact ⟨a, vk_R.of (ht _ (List.mem_append_right _ (tw_5 _ (List.mem_of_getElem? (i := 111) (by decide +kernel))))) q1⟩
set_option maxRecDepth 100000 in
theorem st_ws : ∀ w ∈ tx_ws, w ∈ lw_tbl := by decide +kernel
theorem st_words {b : Nat} {s : State} (h : stG b s) (ht : stT b s) : ∀ q ∈ tx_words, ∃ a : Nat, vk_R q.1 q.2.1 q.2.2.1 a s ∧ StrC q.2.2.2 a (lw_sA s) s s.heap := (List.forall_mem_cons.mpr ⟨st_w0 h ht, (List.forall_mem_cons.mpr ⟨st_w1 h ht, (List.forall_mem_cons.mpr ⟨st_w2 h ht, (List.forall_mem_cons.mpr ⟨st_w3 h ht, (List.forall_mem_cons.mpr ⟨st_w4 h ht, (List.forall_mem_cons.mpr ⟨st_w5 h ht, (List.forall_mem_cons.mpr ⟨st_w6 h ht, (List.forall_mem_cons.mpr ⟨st_w7 h ht, (List.forall_mem_cons.mpr ⟨st_w8 h ht, (List.forall_mem_cons.mpr ⟨st_w9 h ht, (List.forall_mem_cons.mpr ⟨st_w10 h ht, (List.forall_mem_cons.mpr ⟨st_w11 h ht, (List.forall_mem_cons.mpr ⟨st_w12 h ht, (List.forall_mem_cons.mpr ⟨st_w13 h ht, (List.forall_mem_cons.mpr ⟨st_w14 h ht, (List.forall_mem_cons.mpr ⟨st_w15 h ht, (List.forall_mem_cons.mpr ⟨st_w16 h ht, (List.forall_mem_cons.mpr ⟨st_w17 h ht, (List.forall_mem_cons.mpr ⟨st_w18 h ht, (List.forall_mem_cons.mpr ⟨st_w19 h ht, (fun _ h => absurd h List.not_mem_nil)⟩)⟩)⟩)⟩)⟩)⟩)⟩)⟩)⟩)⟩)⟩)⟩)⟩)⟩)⟩)⟩)⟩)⟩)⟩)⟩)
theorem st_strs {b : Nat} {s : State} (h : stG b s) (ht : stT b s) : ∀ q ∈ tx_str, ∃ a : Nat, vk_R RX10 q.1 q.2 a s := (List.forall_mem_cons.mpr ⟨st_m0 h ht, (List.forall_mem_cons.mpr ⟨st_m1 h ht, (List.forall_mem_cons.mpr ⟨st_m2 h ht, (List.forall_mem_cons.mpr ⟨st_m3 h ht, (List.forall_mem_cons.mpr ⟨st_m4 h ht, (List.forall_mem_cons.mpr ⟨st_m5 h ht, (List.forall_mem_cons.mpr ⟨st_m6 h ht, (List.forall_mem_cons.mpr ⟨st_m7 h ht, (List.forall_mem_cons.mpr ⟨st_m8 h ht, (List.forall_mem_cons.mpr ⟨st_m9 h ht, (List.forall_mem_cons.mpr ⟨st_m10 h ht, (List.forall_mem_cons.mpr ⟨st_m11 h ht, (List.forall_mem_cons.mpr ⟨st_m12 h ht, (List.forall_mem_cons.mpr ⟨st_m13 h ht, (List.forall_mem_cons.mpr ⟨st_m14 h ht, (List.forall_mem_cons.mpr ⟨st_m15 h ht, (List.forall_mem_cons.mpr ⟨st_m16 h ht, (List.forall_mem_cons.mpr ⟨st_m17 h ht, (List.forall_mem_cons.mpr ⟨st_m18 h ht, (List.forall_mem_cons.mpr ⟨st_m19 h ht, (List.forall_mem_cons.mpr ⟨st_m20 h ht, (List.forall_mem_cons.mpr ⟨st_m21 h ht, (List.forall_mem_cons.mpr ⟨st_m22 h ht, (List.forall_mem_cons.mpr ⟨st_m23 h ht, (fun _ h => absurd h List.not_mem_nil)⟩)⟩)⟩)⟩)⟩)⟩)⟩)⟩)⟩)⟩)⟩)⟩)⟩)⟩)⟩)⟩)⟩)⟩)⟩)⟩)⟩)⟩)⟩)⟩)
theorem st_nc {b : Nat} {s : State} (h : stG b s) : ∀ q ∈ tx_nc, va_Nc q.1 q.2 s := by
  have hs := flat_of_before _ h
  exact (List.forall_mem_cons.mpr ⟨va_Nc.of (hs _ (by decide +kernel)), (List.forall_mem_cons.mpr ⟨va_Nc.of (hs _ (by decide +kernel)), (List.forall_mem_cons.mpr ⟨va_Nc.of (hs _ (by decide +kernel)), (List.forall_mem_cons.mpr ⟨va_Nc.of (hs _ (by decide +kernel)), (List.forall_mem_cons.mpr ⟨va_Nc.of (hs _ (by decide +kernel)), (List.forall_mem_cons.mpr ⟨va_Nc.of (hs _ (by decide +kernel)), (List.forall_mem_cons.mpr ⟨va_Nc.of (hs _ (by decide +kernel)), (List.forall_mem_cons.mpr ⟨va_Nc.of (hs _ (by decide +kernel)), (List.forall_mem_cons.mpr ⟨va_Nc.of (hs _ (by decide +kernel)), (List.forall_mem_cons.mpr ⟨va_Nc.of (hs _ (by decide +kernel)), (List.forall_mem_cons.mpr ⟨va_Nc.of (hs _ (by decide +kernel)), (List.forall_mem_cons.mpr ⟨va_Nc.of (hs _ (by decide +kernel)), (fun _ h => absurd h List.not_mem_nil)⟩)⟩)⟩)⟩)⟩)⟩)⟩)⟩)⟩)⟩)⟩)⟩)
theorem st_nest {b : Nat} {s : State} (ht : stT b s) : ∀ q ∈ tx_nest, va_Nw (.methodLinkNest q.1 q.2.1 q.2.2.1 q.2.2.2) s := (List.forall_mem_cons.mpr ⟨va_Nw.of rfl (ht _ (List.mem_append_right _ (tw_6 _ (List.mem_of_getElem? (i := 14) (by decide +kernel))))), (List.forall_mem_cons.mpr ⟨va_Nw.of rfl (ht _ (List.mem_append_right _ (tw_3 _ (List.mem_of_getElem? (i := 88) (by decide +kernel))))), (List.forall_mem_cons.mpr ⟨va_Nw.of rfl (ht _ (List.mem_append_right _ (tw_3 _ (List.mem_of_getElem? (i := 91) (by decide +kernel))))), (fun _ h => absurd h List.not_mem_nil)⟩)⟩)⟩)
theorem st_tw {b : Nat} {s : State} (h : stG b s) (ht : stT b s) : TW (lw_sA s) s s.heap := by
  have hs := flat_of_before _ h
  exact ⟨st_words h ht, va_Zof (ht _ (List.mem_append_right _ (tw_3 _ (List.mem_of_getElem? (i := 10) (by decide +kernel))))) (ht _ (List.mem_append_right _ (tw_1 _ (List.mem_of_getElem? (i := 20) (by decide +kernel))))) (va_eqt (hs _ (by decide +kernel))) st_hA, va_Zqof (ht _ (List.mem_append_right _ (tw_3 _ (List.mem_of_getElem? (i := 26) (by decide +kernel))))) (ht _ (List.mem_append_right _ (tw_1 _ (List.mem_of_getElem? (i := 22) (by decide +kernel))))) (hs _ (by decide +kernel)) st_hA, st_nc h⟩
theorem st_tx {b : Nat} {s : State} (h : stG b s) (ht : stT b s) : TX (lw_sA s) s s.heap := by
  have hs := flat_of_before _ h
  exact ⟨fun w hw => vx_ot_at (State.WarmedH.refl s) rfl (tx_ot hw) (ht w (st_ws w hw)), st_strs h ht, vx_Zqof (ht _ (List.mem_append_right _ (tw_4 _ (List.mem_of_getElem? (i := 166) (by decide +kernel))))) (ht _ (List.mem_append_right _ (tw_1 _ (List.mem_of_getElem? (i := 13) (by decide +kernel))))) (hs _ (by decide +kernel)) st_hA, vx_Zqof (ht _ (List.mem_append_right _ (tw_4 _ (List.mem_of_getElem? (i := 168) (by decide +kernel))))) (ht _ (List.mem_append_right _ (tw_1 _ (List.mem_of_getElem? (i := 13) (by decide +kernel))))) (hs _ (by decide +kernel)) st_hA, st_nest ht, st_tw h ht⟩
theorem st_ni {b : Nat} {s : State} (ht : stT b s) : NI s := ⟨(List.forall_mem_cons.mpr ⟨va_Nw.of rfl (ht _ (List.mem_append_right _ (tw_1 _ (List.mem_of_getElem? (i := 182) (by decide +kernel))))), (List.forall_mem_cons.mpr ⟨va_Nw.of rfl (ht _ (List.mem_append_right _ (tw_2 _ (List.mem_of_getElem? (i := 122) (by decide +kernel))))), (List.forall_mem_cons.mpr ⟨va_Nw.of rfl (ht _ (List.mem_append_right _ (tw_2 _ (List.mem_of_getElem? (i := 7) (by decide +kernel))))), (List.forall_mem_cons.mpr ⟨va_Nw.of rfl (ht _ (List.mem_append_right _ (tw_2 _ (List.mem_of_getElem? (i := 88) (by decide +kernel))))), (List.forall_mem_cons.mpr ⟨va_Nw.of rfl (ht _ (List.mem_append_right _ (tw_1 _ (List.mem_of_getElem? (i := 166) (by decide +kernel))))), (List.forall_mem_cons.mpr ⟨va_Nw.of rfl (ht _ (List.mem_append_right _ (tw_1 _ (List.mem_of_getElem? (i := 38) (by decide +kernel))))), (List.forall_mem_cons.mpr ⟨va_Nw.of rfl (ht _ (List.mem_append_right _ (tw_2 _ (List.mem_of_getElem? (i := 65) (by decide +kernel))))), (List.forall_mem_cons.mpr ⟨va_Nw.of rfl (ht _ (List.mem_append_right _ (tw_1 _ (List.mem_of_getElem? (i := 146) (by decide +kernel))))), (List.forall_mem_cons.mpr ⟨va_Nw.of rfl (ht _ (List.mem_append_right _ (tw_1 _ (List.mem_of_getElem? (i := 231) (by decide +kernel))))), (List.forall_mem_cons.mpr ⟨va_Nw.of rfl (ht _ (List.mem_append_right _ (tw_1 _ (List.mem_of_getElem? (i := 44) (by decide +kernel))))), (List.forall_mem_cons.mpr ⟨va_Nw.of rfl (ht _ (List.mem_append_right _ (tw_1 _ (List.mem_of_getElem? (i := 155) (by decide +kernel))))), (fun _ h => absurd h List.not_mem_nil)⟩)⟩)⟩)⟩)⟩)⟩)⟩)⟩)⟩)⟩)⟩), va_AO.of (ht _ (List.mem_append_right _ (tw_1 _ (List.mem_of_getElem? (i := 154) (by decide +kernel)))))⟩
theorem st_K {b : Nat} {s : State} (ht : stT b s) : ∃ (D : va_G) (C : Nat → ClassId), va_K D vwCl (tyL C) s := by
  have hts : ∀ w ∈ WALL, w.before #[Value.ref b] s = true := fun w hw => ht w (List.mem_filter.mp hw).1
  obtain ⟨c0, iS0, hk0⟩ := u_known (C := RX0) (T := TX0) (N := 9) (n := 9) hts iwX0 (ht _ (List.mem_append_right _ (tw_1 _ (List.mem_of_getElem? (i := 181) (by decide +kernel)))))
  obtain ⟨c1, iS1, hk1⟩ := u_known (C := RX1) (T := TX1) (N := 4) (n := 4) hts iwX1 (ht _ (List.mem_append_right _ (tw_2 _ (List.mem_of_getElem? (i := 121) (by decide +kernel)))))
  obtain ⟨c2, iS2, hk2⟩ := u_known (C := RX2) (T := TX2) (N := 13) (n := 13) hts iwX2 (ht _ (List.mem_append_right _ (tw_2 _ (List.mem_of_getElem? (i := 6) (by decide +kernel)))))
  obtain ⟨c3, iS3, hk3⟩ := u_known (C := RX3) (T := TX3) (N := 8) (n := 8) hts iwX3 (ht _ (List.mem_append_right _ (tw_2 _ (List.mem_of_getElem? (i := 87) (by decide +kernel)))))
  obtain ⟨c4, iS4, hk4⟩ := u_known (C := RX4) (T := TX4) (N := 2) (n := 2) hts iwX4 (ht _ (List.mem_append_right _ (tw_1 _ (List.mem_of_getElem? (i := 165) (by decide +kernel)))))
  obtain ⟨c5, iS5, hk5⟩ := u_known (C := RX5) (T := TX5) (N := 9) (n := 9) hts iwX5 (ht _ (List.mem_append_right _ (tw_1 _ (List.mem_of_getElem? (i := 37) (by decide +kernel)))))
  obtain ⟨c6, iS6, hk6⟩ := u_known (C := RX6) (T := TX6) (N := 2) (n := 2) hts iwX6 (ht _ (List.mem_append_right _ (tw_1 _ (List.mem_of_getElem? (i := 148) (by decide +kernel)))))
  obtain ⟨c7, iS7, hk7⟩ := u_known (C := RX7) (T := TX7) (N := 4) (n := 4) hts iwX7 (ht _ (List.mem_append_right _ (tw_2 _ (List.mem_of_getElem? (i := 64) (by decide +kernel)))))
  obtain ⟨c8, iS8, hk8⟩ := u_known (C := RX8) (T := TX8) (N := 11) (n := 11) hts iwX8 (ht _ (List.mem_append_right _ (tw_1 _ (List.mem_of_getElem? (i := 43) (by decide +kernel)))))
  obtain ⟨c9, iS9, hk9⟩ := u_known (C := RX9) (T := TX9) (N := 2) (n := 2) hts iwX9 (ht _ (List.mem_append_right _ (tw_1 _ (List.mem_of_getElem? (i := 230) (by decide +kernel)))))
  obtain ⟨c10, iS10, hk10⟩ := u_known (C := RX10) (T := TX10) (N := 19) (n := 19) hts iwX10 (ht _ (List.mem_append_right _ (tw_1 _ (List.mem_of_getElem? (i := 29) (by decide +kernel)))))
  obtain ⟨c11, iS11, hk11⟩ := u_known (C := RX11) (T := TX11) (N := 40) (n := 40) hts iwX11 (ht _ (List.mem_append_right _ (tw_6 _ (List.mem_of_getElem? (i := 185) (by decide +kernel)))))
  obtain ⟨a0, k0, p0, e0, f0, g0⟩ := Cond.arrayClass_spec (args := #[Value.ref b]) (first := s) (o := none) (s := s) (idx := []) (type := .int) (ht _ (List.mem_append_right _ (tw_1 _ (List.mem_of_getElem? (i := 113) (by decide +kernel)))))
  obtain ⟨a1, k1, p1, e1, f1, g1⟩ := Cond.arrayClass_spec (args := #[Value.ref b]) (first := s) (o := none) (s := s) (idx := []) (type := .byte) (ht _ (List.mem_append_right _ (tw_1 _ (List.mem_of_getElem? (i := 112) (by decide +kernel)))))
  obtain ⟨a2, k2, p2, e2, f2, g2⟩ := Cond.arrayClass_spec (args := #[Value.ref b]) (first := s) (o := none) (s := s) (idx := []) (type := .boolean) (ht _ (List.mem_append_right _ (tw_1 _ (List.mem_of_getElem? (i := 179) (by decide +kernel)))))
  obtain ⟨a4, k4, p4, e4, f4, g4⟩ := Cond.arrayClass_spec (args := #[Value.ref b]) (first := s) (o := none) (s := s) (idx := []) (type := .long) (ht _ (List.mem_append_right _ (tw_9 _ (List.mem_of_getElem? (i := 181) (by decide +kernel)))))
  obtain ⟨p3, a3, k3, e3, -, f3, g3, h3⟩ := Cond.arrayOver_spec (args := #[Value.ref b]) (first := s) (o := none) (s := s) (idx := []) (n := "ParetoDesk$Setup") (ht _ (List.mem_append_right _ (tw_1 _ (List.mem_of_getElem? (i := 154) (by decide +kernel)))))
  refine ⟨(fun k => [c0, c1, c2, c3, c4, c5, c6, c7, c8, c9, c10, c11].getD k 0, fun k => [iS0, iS1, iS2, iS3, iS4, iS5, iS6, iS7, iS8, iS9, iS10, iS11].getD k (fun _ => 0)), fun k => [a0, a1, a2, a3, a4].getD k 0, fun k q hq => ?_, fun k q hq => ?_⟩
  · match k, hq with
    | 0, hq => cases hq; exact hk0
    | 1, hq => cases hq; exact hk1
    | 2, hq => cases hq; exact hk2
    | 3, hq => cases hq; exact hk3
    | 4, hq => cases hq; exact hk4
    | 5, hq => cases hq; exact hk5
    | 6, hq => cases hq; exact hk6
    | 7, hq => cases hq; exact hk7
    | 8, hq => cases hq; exact hk8
    | 9, hq => cases hq; exact hk9
    | 10, hq => cases hq; exact hk10
    | 11, hq => cases hq; exact hk11
    | k + 12, hq => simp [vwCl] at hq
  · match k, hq with
    | 0, hq => cases hq; exact ⟨fun n z => ⟨fun k h => (by cases h), k0, f0, p0, g0⟩, e0⟩
    | 1, hq => cases hq; exact ⟨fun n z => ⟨fun k h => (by cases h), k1, f1, p1, g1⟩, e1⟩
    | 2, hq => cases hq; exact ⟨fun n z => ⟨fun k h => (by cases h), k2, f2, p2, g2⟩, e2⟩
    | 3, hq => cases hq; exact ⟨fun n z => ⟨fun k h => (by cases h), k3, f3, p3, g3⟩, k3, p3, f3, g3, e3, h3⟩
    | 4, hq => cases hq; exact ⟨fun n z => ⟨fun k h => (by cases h), k4, f4, p4, g4⟩, e4⟩
    | k + 5, hq => simp at hq
