/-! THE LAW'S START: what is given there -/
abbrev lw_sA (s : State) : Nat → Prop := fun q => s.heap.size ≤ q
theorem st_hA {s : State} : ∀ a : Nat, a < s.heap.size → ¬ lw_sA s a := fun _ h z => Nat.not_le.mpr h z
abbrev stG (b : Nat) (s : State) : Prop := (Jvm.Cond.and given_1 narrow_1).before #[Value.ref b] s = true
abbrev stT (b : Nat) (s : State) : Prop := ∀ w ∈ lw_tbl, w.before #[Value.ref b] s = true
set_option maxRecDepth 100000 in
theorem st_w0 {b : Nat} {s : State} (h : stG b s) (ht : stT b s) : ∃ a : Nat, vk_R "ParetoDeskLaw" 46 "capacity " a s ∧ StrC [99, 97, 112, 97, 99, 105, 116, 121, 32] a (lw_sA s) s s.heap := by
  have hs := flat_of_before _ h
  obtain ⟨adK, adV, h1, h2⟩ := vk_Sof (args := #[Value.ref b]) (s := s) (N := 1) (tm := fun _ => (Term.string "ParetoDeskLaw" 46)) (len := [9]) (byt := [[99, 97, 112, 97, 99, 105, 116, 121, 32]]) (A := lw_sA s) (fun i hi => by
    obtain rfl : i = 0 := by omega
    decide) (fun i hi => hs _ (by decide +kernel)) (fun i hi => hs _ (by decide +kernel)) (fun i hi => hs _ (by decide +kernel)) (fun i hi => by
    obtain rfl : i = 0 := by omega
    exact hs _ (by decide +kernel)) (fun i hi j hj => by
    obtain rfl : i = 0 := by omega
    have hj : j < 9 := hj
    rcases (show j = 0 ∨ j = 1 ∨ j = 2 ∨ j = 3 ∨ j = 4 ∨ j = 5 ∨ j = 6 ∨ j = 7 ∨ j = 8 by omega) with rfl | rfl | rfl | rfl | rfl | rfl | rfl | rfl | rfl <;> exact hs _ (by decide +kernel)) (fun i j hi hj hij => absurd (show i = j by omega) hij) st_hA
  exact ⟨adK 0, vk_R.of (ht _ (List.mem_append_right _ (tw_3 _ (List.mem_of_getElem? (i := 57) (by decide +kernel))))) (h2 0 (by omega)), adV 0, (h1.1 0 (by omega)).1, (h1.1 0 (by omega)).2.1, (h1.1 0 (by omega)).2.2.1, (h1.1 0 (by omega)).2.2.2⟩
set_option maxRecDepth 100000 in
theorem st_w1 {b : Nat} {s : State} (h : stG b s) (ht : stT b s) : ∃ a : Nat, vk_R "ParetoDeskLaw" 54 " limit " a s ∧ StrC [32, 108, 105, 109, 105, 116, 32] a (lw_sA s) s s.heap := by
  have hs := flat_of_before _ h
  obtain ⟨adK, adV, h1, h2⟩ := vk_Sof (args := #[Value.ref b]) (s := s) (N := 1) (tm := fun _ => (Term.string "ParetoDeskLaw" 54)) (len := [7]) (byt := [[32, 108, 105, 109, 105, 116, 32]]) (A := lw_sA s) (fun i hi => by
    obtain rfl : i = 0 := by omega
    decide) (fun i hi => hs _ (by decide +kernel)) (fun i hi => hs _ (by decide +kernel)) (fun i hi => hs _ (by decide +kernel)) (fun i hi => by
    obtain rfl : i = 0 := by omega
    exact hs _ (by decide +kernel)) (fun i hi j hj => by
    obtain rfl : i = 0 := by omega
    have hj : j < 7 := hj
    rcases (show j = 0 ∨ j = 1 ∨ j = 2 ∨ j = 3 ∨ j = 4 ∨ j = 5 ∨ j = 6 by omega) with rfl | rfl | rfl | rfl | rfl | rfl | rfl <;> exact hs _ (by decide +kernel)) (fun i j hi hj hij => absurd (show i = j by omega) hij) st_hA
  exact ⟨adK 0, vk_R.of (ht _ (List.mem_append_right _ (tw_3 _ (List.mem_of_getElem? (i := 236) (by decide +kernel))))) (h2 0 (by omega)), adV 0, (h1.1 0 (by omega)).1, (h1.1 0 (by omega)).2.1, (h1.1 0 (by omega)).2.2.1, (h1.1 0 (by omega)).2.2.2⟩
set_option maxRecDepth 100000 in
theorem st_w2 {b : Nat} {s : State} (h : stG b s) (ht : stT b s) : ∃ a : Nat, vk_R "ParetoDeskLaw" 59 ";" a s ∧ StrC [59] a (lw_sA s) s s.heap := by
  have hs := flat_of_before _ h
  obtain ⟨adK, adV, h1, h2⟩ := vk_Sof (args := #[Value.ref b]) (s := s) (N := 1) (tm := fun _ => (Term.string "ParetoDeskLaw" 59)) (len := [1]) (byt := [[59]]) (A := lw_sA s) (fun i hi => by
    obtain rfl : i = 0 := by omega
    decide) (fun i hi => hs _ (by decide +kernel)) (fun i hi => hs _ (by decide +kernel)) (fun i hi => hs _ (by decide +kernel)) (fun i hi => by
    obtain rfl : i = 0 := by omega
    exact hs _ (by decide +kernel)) (fun i hi j hj => by
    obtain rfl : i = 0 := by omega
    have hj : j < 1 := hj
    obtain rfl : j = 0 := by omega
    exact hs _ (by decide +kernel)) (fun i j hi hj hij => absurd (show i = j by omega) hij) st_hA
  exact ⟨adK 0, vk_R.of (ht _ (List.mem_append_right _ (tw_3 _ (List.mem_of_getElem? (i := 238) (by decide +kernel))))) (h2 0 (by omega)), adV 0, (h1.1 0 (by omega)).1, (h1.1 0 (by omega)).2.1, (h1.1 0 (by omega)).2.2.1, (h1.1 0 (by omega)).2.2.2⟩
set_option maxRecDepth 100000 in
theorem st_w3 {b : Nat} {s : State} (h : stG b s) (ht : stT b s) : ∃ a : Nat, vk_R "ParetoDeskLaw" 61 "item weight " a s ∧ StrC [105, 116, 101, 109, 32, 119, 101, 105, 103, 104, 116, 32] a (lw_sA s) s s.heap := by
  have hs := flat_of_before _ h
  obtain ⟨adK, adV, h1, h2⟩ := vk_Sof (args := #[Value.ref b]) (s := s) (N := 1) (tm := fun _ => (Term.string "ParetoDeskLaw" 61)) (len := [12]) (byt := [[105, 116, 101, 109, 32, 119, 101, 105, 103, 104, 116, 32]]) (A := lw_sA s) (fun i hi => by
    obtain rfl : i = 0 := by omega
    decide) (fun i hi => hs _ (by decide +kernel)) (fun i hi => hs _ (by decide +kernel)) (fun i hi => hs _ (by decide +kernel)) (fun i hi => by
    obtain rfl : i = 0 := by omega
    exact hs _ (by decide +kernel)) (fun i hi j hj => by
    obtain rfl : i = 0 := by omega
    have hj : j < 12 := hj
    rcases (show j = 0 ∨ j = 1 ∨ j = 2 ∨ j = 3 ∨ j = 4 ∨ j = 5 ∨ j = 6 ∨ j = 7 ∨ j = 8 ∨ j = 9 ∨ j = 10 ∨ j = 11 by omega) with rfl | rfl | rfl | rfl | rfl | rfl | rfl | rfl | rfl | rfl | rfl | rfl <;> exact hs _ (by decide +kernel)) (fun i j hi hj hij => absurd (show i = j by omega) hij) st_hA
  exact ⟨adK 0, vk_R.of (ht _ (List.mem_append_right _ (tw_3 _ (List.mem_of_getElem? (i := 239) (by decide +kernel))))) (h2 0 (by omega)), adV 0, (h1.1 0 (by omega)).1, (h1.1 0 (by omega)).2.1, (h1.1 0 (by omega)).2.2.1, (h1.1 0 (by omega)).2.2.2⟩
set_option maxRecDepth 100000 in
theorem st_w4 {b : Nat} {s : State} (h : stG b s) (ht : stT b s) : ∃ a : Nat, vk_R "ParetoDeskLaw" 63 " gain " a s ∧ StrC [32, 103, 97, 105, 110, 32] a (lw_sA s) s s.heap := by
  have hs := flat_of_before _ h
  obtain ⟨adK, adV, h1, h2⟩ := vk_Sof (args := #[Value.ref b]) (s := s) (N := 1) (tm := fun _ => (Term.string "ParetoDeskLaw" 63)) (len := [6]) (byt := [[32, 103, 97, 105, 110, 32]]) (A := lw_sA s) (fun i hi => by
    obtain rfl : i = 0 := by omega
    decide) (fun i hi => hs _ (by decide +kernel)) (fun i hi => hs _ (by decide +kernel)) (fun i hi => hs _ (by decide +kernel)) (fun i hi => by
    obtain rfl : i = 0 := by omega
    exact hs _ (by decide +kernel)) (fun i hi j hj => by
    obtain rfl : i = 0 := by omega
    have hj : j < 6 := hj
    rcases (show j = 0 ∨ j = 1 ∨ j = 2 ∨ j = 3 ∨ j = 4 ∨ j = 5 by omega) with rfl | rfl | rfl | rfl | rfl | rfl <;> exact hs _ (by decide +kernel)) (fun i j hi hj hij => absurd (show i = j by omega) hij) st_hA
  exact ⟨adK 0, vk_R.of (ht _ (List.mem_append_right _ (tw_4 _ (List.mem_of_getElem? (i := 0) (by decide +kernel))))) (h2 0 (by omega)), adV 0, (h1.1 0 (by omega)).1, (h1.1 0 (by omega)).2.1, (h1.1 0 (by omega)).2.2.1, (h1.1 0 (by omega)).2.2.2⟩
set_option maxRecDepth 100000 in
theorem st_w5 {b : Nat} {s : State} (h : stG b s) (ht : stT b s) : ∃ a : Nat, vk_R "ParetoDeskLaw" 65 " joy " a s ∧ StrC [32, 106, 111, 121, 32] a (lw_sA s) s s.heap := by
  have hs := flat_of_before _ h
  obtain ⟨adK, adV, h1, h2⟩ := vk_Sof (args := #[Value.ref b]) (s := s) (N := 1) (tm := fun _ => (Term.string "ParetoDeskLaw" 65)) (len := [5]) (byt := [[32, 106, 111, 121, 32]]) (A := lw_sA s) (fun i hi => by
    obtain rfl : i = 0 := by omega
    decide) (fun i hi => hs _ (by decide +kernel)) (fun i hi => hs _ (by decide +kernel)) (fun i hi => hs _ (by decide +kernel)) (fun i hi => by
    obtain rfl : i = 0 := by omega
    exact hs _ (by decide +kernel)) (fun i hi j hj => by
    obtain rfl : i = 0 := by omega
    have hj : j < 5 := hj
    rcases (show j = 0 ∨ j = 1 ∨ j = 2 ∨ j = 3 ∨ j = 4 by omega) with rfl | rfl | rfl | rfl | rfl <;> exact hs _ (by decide +kernel)) (fun i j hi hj hij => absurd (show i = j by omega) hij) st_hA
  exact ⟨adK 0, vk_R.of (ht _ (List.mem_append_right _ (tw_4 _ (List.mem_of_getElem? (i := 1) (by decide +kernel))))) (h2 0 (by omega)), adV 0, (h1.1 0 (by omega)).1, (h1.1 0 (by omega)).2.1, (h1.1 0 (by omega)).2.2.1, (h1.1 0 (by omega)).2.2.2⟩
set_option maxRecDepth 100000 in
theorem st_w6 {b : Nat} {s : State} (h : stG b s) (ht : stT b s) : ∃ a : Nat, vk_R "ParetoDeskLaw" 67 "bar " a s ∧ StrC [98, 97, 114, 32] a (lw_sA s) s s.heap := by
  have hs := flat_of_before _ h
  obtain ⟨adK, adV, h1, h2⟩ := vk_Sof (args := #[Value.ref b]) (s := s) (N := 1) (tm := fun _ => (Term.string "ParetoDeskLaw" 67)) (len := [4]) (byt := [[98, 97, 114, 32]]) (A := lw_sA s) (fun i hi => by
    obtain rfl : i = 0 := by omega
    decide) (fun i hi => hs _ (by decide +kernel)) (fun i hi => hs _ (by decide +kernel)) (fun i hi => hs _ (by decide +kernel)) (fun i hi => by
    obtain rfl : i = 0 := by omega
    exact hs _ (by decide +kernel)) (fun i hi j hj => by
    obtain rfl : i = 0 := by omega
    have hj : j < 4 := hj
    rcases (show j = 0 ∨ j = 1 ∨ j = 2 ∨ j = 3 by omega) with rfl | rfl | rfl | rfl <;> exact hs _ (by decide +kernel)) (fun i j hi hj hij => absurd (show i = j by omega) hij) st_hA
  exact ⟨adK 0, vk_R.of (ht _ (List.mem_append_right _ (tw_4 _ (List.mem_of_getElem? (i := 2) (by decide +kernel))))) (h2 0 (by omega)), adV 0, (h1.1 0 (by omega)).1, (h1.1 0 (by omega)).2.1, (h1.1 0 (by omega)).2.2.1, (h1.1 0 (by omega)).2.2.2⟩
set_option maxRecDepth 100000 in
theorem st_w7 {b : Nat} {s : State} (h : stG b s) (ht : stT b s) : ∃ a : Nat, vk_R "ParetoDeskLaw" 69 " " a s ∧ StrC [32] a (lw_sA s) s s.heap := by
  have hs := flat_of_before _ h
  obtain ⟨adK, adV, h1, h2⟩ := vk_Sof (args := #[Value.ref b]) (s := s) (N := 1) (tm := fun _ => (Term.string "ParetoDeskLaw" 69)) (len := [1]) (byt := [[32]]) (A := lw_sA s) (fun i hi => by
    obtain rfl : i = 0 := by omega
    decide) (fun i hi => hs _ (by decide +kernel)) (fun i hi => hs _ (by decide +kernel)) (fun i hi => hs _ (by decide +kernel)) (fun i hi => by
    obtain rfl : i = 0 := by omega
    exact hs _ (by decide +kernel)) (fun i hi j hj => by
    obtain rfl : i = 0 := by omega
    have hj : j < 1 := hj
    obtain rfl : j = 0 := by omega
    exact hs _ (by decide +kernel)) (fun i j hi hj hij => absurd (show i = j by omega) hij) st_hA
  exact ⟨adK 0, vk_R.of (ht _ (List.mem_append_right _ (tw_4 _ (List.mem_of_getElem? (i := 3) (by decide +kernel))))) (h2 0 (by omega)), adV 0, (h1.1 0 (by omega)).1, (h1.1 0 (by omega)).2.1, (h1.1 0 (by omega)).2.2.1, (h1.1 0 (by omega)).2.2.2⟩
set_option maxRecDepth 100000 in
theorem st_w8 {b : Nat} {s : State} (h : stG b s) (ht : stT b s) : ∃ a : Nat, vk_R "ParetoDeskLaw" 71 "need " a s ∧ StrC [110, 101, 101, 100, 32] a (lw_sA s) s s.heap := by
  have hs := flat_of_before _ h
  obtain ⟨adK, adV, h1, h2⟩ := vk_Sof (args := #[Value.ref b]) (s := s) (N := 1) (tm := fun _ => (Term.string "ParetoDeskLaw" 71)) (len := [5]) (byt := [[110, 101, 101, 100, 32]]) (A := lw_sA s) (fun i hi => by
    obtain rfl : i = 0 := by omega
    decide) (fun i hi => hs _ (by decide +kernel)) (fun i hi => hs _ (by decide +kernel)) (fun i hi => hs _ (by decide +kernel)) (fun i hi => by
    obtain rfl : i = 0 := by omega
    exact hs _ (by decide +kernel)) (fun i hi j hj => by
    obtain rfl : i = 0 := by omega
    have hj : j < 5 := hj
    rcases (show j = 0 ∨ j = 1 ∨ j = 2 ∨ j = 3 ∨ j = 4 by omega) with rfl | rfl | rfl | rfl | rfl <;> exact hs _ (by decide +kernel)) (fun i j hi hj hij => absurd (show i = j by omega) hij) st_hA
  exact ⟨adK 0, vk_R.of (ht _ (List.mem_append_right _ (tw_4 _ (List.mem_of_getElem? (i := 4) (by decide +kernel))))) (h2 0 (by omega)), adV 0, (h1.1 0 (by omega)).1, (h1.1 0 (by omega)).2.1, (h1.1 0 (by omega)).2.2.1, (h1.1 0 (by omega)).2.2.2⟩
set_option maxRecDepth 100000 in
theorem st_w9 {b : Nat} {s : State} (h : stG b s) (ht : stT b s) : ∃ a : Nat, vk_R "ParetoDeskLaw" 73 "must " a s ∧ StrC [109, 117, 115, 116, 32] a (lw_sA s) s s.heap := by
  have hs := flat_of_before _ h
  obtain ⟨adK, adV, h1, h2⟩ := vk_Sof (args := #[Value.ref b]) (s := s) (N := 1) (tm := fun _ => (Term.string "ParetoDeskLaw" 73)) (len := [5]) (byt := [[109, 117, 115, 116, 32]]) (A := lw_sA s) (fun i hi => by
    obtain rfl : i = 0 := by omega
    decide) (fun i hi => hs _ (by decide +kernel)) (fun i hi => hs _ (by decide +kernel)) (fun i hi => hs _ (by decide +kernel)) (fun i hi => by
    obtain rfl : i = 0 := by omega
    exact hs _ (by decide +kernel)) (fun i hi j hj => by
    obtain rfl : i = 0 := by omega
    have hj : j < 5 := hj
    rcases (show j = 0 ∨ j = 1 ∨ j = 2 ∨ j = 3 ∨ j = 4 by omega) with rfl | rfl | rfl | rfl | rfl <;> exact hs _ (by decide +kernel)) (fun i j hi hj hij => absurd (show i = j by omega) hij) st_hA
  exact ⟨adK 0, vk_R.of (ht _ (List.mem_append_right _ (tw_4 _ (List.mem_of_getElem? (i := 5) (by decide +kernel))))) (h2 0 (by omega)), adV 0, (h1.1 0 (by omega)).1, (h1.1 0 (by omega)).2.1, (h1.1 0 (by omega)).2.2.1, (h1.1 0 (by omega)).2.2.2⟩
set_option maxRecDepth 100000 in
theorem st_w10 {b : Nat} {s : State} (h : stG b s) (ht : stT b s) : ∃ a : Nat, vk_R "ParetoDeskLaw" 75 "never " a s ∧ StrC [110, 101, 118, 101, 114, 32] a (lw_sA s) s s.heap := by
  have hs := flat_of_before _ h
  obtain ⟨adK, adV, h1, h2⟩ := vk_Sof (args := #[Value.ref b]) (s := s) (N := 1) (tm := fun _ => (Term.string "ParetoDeskLaw" 75)) (len := [6]) (byt := [[110, 101, 118, 101, 114, 32]]) (A := lw_sA s) (fun i hi => by
    obtain rfl : i = 0 := by omega
    decide) (fun i hi => hs _ (by decide +kernel)) (fun i hi => hs _ (by decide +kernel)) (fun i hi => hs _ (by decide +kernel)) (fun i hi => by
    obtain rfl : i = 0 := by omega
    exact hs _ (by decide +kernel)) (fun i hi j hj => by
    obtain rfl : i = 0 := by omega
    have hj : j < 6 := hj
    rcases (show j = 0 ∨ j = 1 ∨ j = 2 ∨ j = 3 ∨ j = 4 ∨ j = 5 by omega) with rfl | rfl | rfl | rfl | rfl | rfl <;> exact hs _ (by decide +kernel)) (fun i j hi hj hij => absurd (show i = j by omega) hij) st_hA
  exact ⟨adK 0, vk_R.of (ht _ (List.mem_append_right _ (tw_4 _ (List.mem_of_getElem? (i := 6) (by decide +kernel))))) (h2 0 (by omega)), adV 0, (h1.1 0 (by omega)).1, (h1.1 0 (by omega)).2.1, (h1.1 0 (by omega)).2.2.1, (h1.1 0 (by omega)).2.2.2⟩
set_option maxRecDepth 100000 in
theorem st_w11 {b : Nat} {s : State} (h : stG b s) (ht : stT b s) : ∃ a : Nat, vk_R "ParetoDesk$Parser" 97 "capacity" a s ∧ StrC [99, 97, 112, 97, 99, 105, 116, 121] a (lw_sA s) s s.heap := by
  have hs := flat_of_before _ h
  obtain ⟨adK, adV, h1, h2⟩ := vk_Sof (args := #[Value.ref b]) (s := s) (N := 1) (tm := fun _ => (Term.string "ParetoDesk$Parser" 97)) (len := [8]) (byt := [[99, 97, 112, 97, 99, 105, 116, 121]]) (A := lw_sA s) (fun i hi => by
    obtain rfl : i = 0 := by omega
    decide) (fun i hi => hs _ (by decide +kernel)) (fun i hi => hs _ (by decide +kernel)) (fun i hi => hs _ (by decide +kernel)) (fun i hi => by
    obtain rfl : i = 0 := by omega
    exact hs _ (by decide +kernel)) (fun i hi j hj => by
    obtain rfl : i = 0 := by omega
    have hj : j < 8 := hj
    rcases (show j = 0 ∨ j = 1 ∨ j = 2 ∨ j = 3 ∨ j = 4 ∨ j = 5 ∨ j = 6 ∨ j = 7 by omega) with rfl | rfl | rfl | rfl | rfl | rfl | rfl | rfl <;> exact hs _ (by decide +kernel)) (fun i j hi hj hij => absurd (show i = j by omega) hij) st_hA
  exact ⟨adK 0, vk_R.of (ht _ (List.mem_append_right _ (tw_4 _ (List.mem_of_getElem? (i := 157) (by decide +kernel))))) (h2 0 (by omega)), adV 0, (h1.1 0 (by omega)).1, (h1.1 0 (by omega)).2.1, (h1.1 0 (by omega)).2.2.1, (h1.1 0 (by omega)).2.2.2⟩
set_option maxRecDepth 100000 in
theorem st_w12 {b : Nat} {s : State} (h : stG b s) (ht : stT b s) : ∃ a : Nat, vk_R "ParetoDesk$Parser" 108 "limit" a s ∧ StrC [108, 105, 109, 105, 116] a (lw_sA s) s s.heap := by
  have hs := flat_of_before _ h
  obtain ⟨adK, adV, h1, h2⟩ := vk_Sof (args := #[Value.ref b]) (s := s) (N := 1) (tm := fun _ => (Term.string "ParetoDesk$Parser" 108)) (len := [5]) (byt := [[108, 105, 109, 105, 116]]) (A := lw_sA s) (fun i hi => by
    obtain rfl : i = 0 := by omega
    decide) (fun i hi => hs _ (by decide +kernel)) (fun i hi => hs _ (by decide +kernel)) (fun i hi => hs _ (by decide +kernel)) (fun i hi => by
    obtain rfl : i = 0 := by omega
    exact hs _ (by decide +kernel)) (fun i hi j hj => by
    obtain rfl : i = 0 := by omega
    have hj : j < 5 := hj
    rcases (show j = 0 ∨ j = 1 ∨ j = 2 ∨ j = 3 ∨ j = 4 by omega) with rfl | rfl | rfl | rfl | rfl <;> exact hs _ (by decide +kernel)) (fun i j hi hj hij => absurd (show i = j by omega) hij) st_hA
  exact ⟨adK 0, vk_R.of (ht _ (List.mem_append_right _ (tw_4 _ (List.mem_of_getElem? (i := 180) (by decide +kernel))))) (h2 0 (by omega)), adV 0, (h1.1 0 (by omega)).1, (h1.1 0 (by omega)).2.1, (h1.1 0 (by omega)).2.2.1, (h1.1 0 (by omega)).2.2.2⟩
set_option maxRecDepth 100000 in
theorem st_w13 {b : Nat} {s : State} (h : stG b s) (ht : stT b s) : ∃ a : Nat, vk_R "ParetoDesk$Parser" 115 "item" a s ∧ StrC [105, 116, 101, 109] a (lw_sA s) s s.heap := by
  have hs := flat_of_before _ h
  obtain ⟨adK, adV, h1, h2⟩ := vk_Sof (args := #[Value.ref b]) (s := s) (N := 1) (tm := fun _ => (Term.string "ParetoDesk$Parser" 115)) (len := [4]) (byt := [[105, 116, 101, 109]]) (A := lw_sA s) (fun i hi => by
    obtain rfl : i = 0 := by omega
    decide) (fun i hi => hs _ (by decide +kernel)) (fun i hi => hs _ (by decide +kernel)) (fun i hi => hs _ (by decide +kernel)) (fun i hi => by
    obtain rfl : i = 0 := by omega
    exact hs _ (by decide +kernel)) (fun i hi j hj => by
    obtain rfl : i = 0 := by omega
    have hj : j < 4 := hj
    rcases (show j = 0 ∨ j = 1 ∨ j = 2 ∨ j = 3 by omega) with rfl | rfl | rfl | rfl <;> exact hs _ (by decide +kernel)) (fun i j hi hj hij => absurd (show i = j by omega) hij) st_hA
  exact ⟨adK 0, vk_R.of (ht _ (List.mem_append_right _ (tw_4 _ (List.mem_of_getElem? (i := 189) (by decide +kernel))))) (h2 0 (by omega)), adV 0, (h1.1 0 (by omega)).1, (h1.1 0 (by omega)).2.1, (h1.1 0 (by omega)).2.2.1, (h1.1 0 (by omega)).2.2.2⟩
set_option maxRecDepth 100000 in
theorem st_w14 {b : Nat} {s : State} (h : stG b s) (ht : stT b s) : ∃ a : Nat, vk_R "ParetoDesk$Parser" 120 "bar" a s ∧ StrC [98, 97, 114] a (lw_sA s) s s.heap := by
  have hs := flat_of_before _ h
  obtain ⟨adK, adV, h1, h2⟩ := vk_Sof (args := #[Value.ref b]) (s := s) (N := 1) (tm := fun _ => (Term.string "ParetoDesk$Parser" 120)) (len := [3]) (byt := [[98, 97, 114]]) (A := lw_sA s) (fun i hi => by
    obtain rfl : i = 0 := by omega
    decide) (fun i hi => hs _ (by decide +kernel)) (fun i hi => hs _ (by decide +kernel)) (fun i hi => hs _ (by decide +kernel)) (fun i hi => by
    obtain rfl : i = 0 := by omega
    exact hs _ (by decide +kernel)) (fun i hi j hj => by
    obtain rfl : i = 0 := by omega
    have hj : j < 3 := hj
    rcases (show j = 0 ∨ j = 1 ∨ j = 2 by omega) with rfl | rfl | rfl <;> exact hs _ (by decide +kernel)) (fun i j hi hj hij => absurd (show i = j by omega) hij) st_hA
  exact ⟨adK 0, vk_R.of (ht _ (List.mem_append_right _ (tw_4 _ (List.mem_of_getElem? (i := 201) (by decide +kernel))))) (h2 0 (by omega)), adV 0, (h1.1 0 (by omega)).1, (h1.1 0 (by omega)).2.1, (h1.1 0 (by omega)).2.2.1, (h1.1 0 (by omega)).2.2.2⟩
set_option maxRecDepth 100000 in
theorem st_w15 {b : Nat} {s : State} (h : stG b s) (ht : stT b s) : ∃ a : Nat, vk_R "ParetoDesk$Parser" 122 "need" a s ∧ StrC [110, 101, 101, 100] a (lw_sA s) s s.heap := by
  have hs := flat_of_before _ h
  obtain ⟨adK, adV, h1, h2⟩ := vk_Sof (args := #[Value.ref b]) (s := s) (N := 1) (tm := fun _ => (Term.string "ParetoDesk$Parser" 122)) (len := [4]) (byt := [[110, 101, 101, 100]]) (A := lw_sA s) (fun i hi => by
    obtain rfl : i = 0 := by omega
    decide) (fun i hi => hs _ (by decide +kernel)) (fun i hi => hs _ (by decide +kernel)) (fun i hi => hs _ (by decide +kernel)) (fun i hi => by
    obtain rfl : i = 0 := by omega
    exact hs _ (by decide +kernel)) (fun i hi j hj => by
    obtain rfl : i = 0 := by omega
    have hj : j < 4 := hj
    rcases (show j = 0 ∨ j = 1 ∨ j = 2 ∨ j = 3 by omega) with rfl | rfl | rfl | rfl <;> exact hs _ (by decide +kernel)) (fun i j hi hj hij => absurd (show i = j by omega) hij) st_hA
  exact ⟨adK 0, vk_R.of (ht _ (List.mem_append_right _ (tw_4 _ (List.mem_of_getElem? (i := 202) (by decide +kernel))))) (h2 0 (by omega)), adV 0, (h1.1 0 (by omega)).1, (h1.1 0 (by omega)).2.1, (h1.1 0 (by omega)).2.2.1, (h1.1 0 (by omega)).2.2.2⟩
set_option maxRecDepth 100000 in
theorem st_w16 {b : Nat} {s : State} (h : stG b s) (ht : stT b s) : ∃ a : Nat, vk_R "ParetoDesk$Parser" 128 "must" a s ∧ StrC [109, 117, 115, 116] a (lw_sA s) s s.heap := by
  have hs := flat_of_before _ h
  obtain ⟨adK, adV, h1, h2⟩ := vk_Sof (args := #[Value.ref b]) (s := s) (N := 1) (tm := fun _ => (Term.string "ParetoDesk$Parser" 128)) (len := [4]) (byt := [[109, 117, 115, 116]]) (A := lw_sA s) (fun i hi => by
    obtain rfl : i = 0 := by omega
    decide) (fun i hi => hs _ (by decide +kernel)) (fun i hi => hs _ (by decide +kernel)) (fun i hi => hs _ (by decide +kernel)) (fun i hi => by
    obtain rfl : i = 0 := by omega
    exact hs _ (by decide +kernel)) (fun i hi j hj => by
    obtain rfl : i = 0 := by omega
    have hj : j < 4 := hj
    rcases (show j = 0 ∨ j = 1 ∨ j = 2 ∨ j = 3 by omega) with rfl | rfl | rfl | rfl <;> exact hs _ (by decide +kernel)) (fun i j hi hj hij => absurd (show i = j by omega) hij) st_hA
  exact ⟨adK 0, vk_R.of (ht _ (List.mem_append_right _ (tw_4 _ (List.mem_of_getElem? (i := 213) (by decide +kernel))))) (h2 0 (by omega)), adV 0, (h1.1 0 (by omega)).1, (h1.1 0 (by omega)).2.1, (h1.1 0 (by omega)).2.2.1, (h1.1 0 (by omega)).2.2.2⟩
set_option maxRecDepth 100000 in
theorem st_w17 {b : Nat} {s : State} (h : stG b s) (ht : stT b s) : ∃ a : Nat, vk_R "ParetoDesk$Parser" 130 "never" a s ∧ StrC [110, 101, 118, 101, 114] a (lw_sA s) s s.heap := by
  have hs := flat_of_before _ h
  obtain ⟨adK, adV, h1, h2⟩ := vk_Sof (args := #[Value.ref b]) (s := s) (N := 1) (tm := fun _ => (Term.string "ParetoDesk$Parser" 130)) (len := [5]) (byt := [[110, 101, 118, 101, 114]]) (A := lw_sA s) (fun i hi => by
    obtain rfl : i = 0 := by omega
    decide) (fun i hi => hs _ (by decide +kernel)) (fun i hi => hs _ (by decide +kernel)) (fun i hi => hs _ (by decide +kernel)) (fun i hi => by
    obtain rfl : i = 0 := by omega
    exact hs _ (by decide +kernel)) (fun i hi j hj => by
    obtain rfl : i = 0 := by omega
    have hj : j < 5 := hj
    rcases (show j = 0 ∨ j = 1 ∨ j = 2 ∨ j = 3 ∨ j = 4 by omega) with rfl | rfl | rfl | rfl | rfl <;> exact hs _ (by decide +kernel)) (fun i j hi hj hij => absurd (show i = j by omega) hij) st_hA
  exact ⟨adK 0, vk_R.of (ht _ (List.mem_append_right _ (tw_4 _ (List.mem_of_getElem? (i := 214) (by decide +kernel))))) (h2 0 (by omega)), adV 0, (h1.1 0 (by omega)).1, (h1.1 0 (by omega)).2.1, (h1.1 0 (by omega)).2.2.1, (h1.1 0 (by omega)).2.2.2⟩
set_option maxRecDepth 100000 in
theorem st_w18 {b : Nat} {s : State} (h : stG b s) (ht : stT b s) : ∃ a : Nat, vk_R "ParetoDesk$Parser" 138 "weight" a s ∧ StrC [119, 101, 105, 103, 104, 116] a (lw_sA s) s s.heap := by
  have hs := flat_of_before _ h
  obtain ⟨adK, adV, h1, h2⟩ := vk_Sof (args := #[Value.ref b]) (s := s) (N := 1) (tm := fun _ => (Term.string "ParetoDesk$Parser" 138)) (len := [6]) (byt := [[119, 101, 105, 103, 104, 116]]) (A := lw_sA s) (fun i hi => by
    obtain rfl : i = 0 := by omega
    decide) (fun i hi => hs _ (by decide +kernel)) (fun i hi => hs _ (by decide +kernel)) (fun i hi => hs _ (by decide +kernel)) (fun i hi => by
    obtain rfl : i = 0 := by omega
    exact hs _ (by decide +kernel)) (fun i hi j hj => by
    obtain rfl : i = 0 := by omega
    have hj : j < 6 := hj
    rcases (show j = 0 ∨ j = 1 ∨ j = 2 ∨ j = 3 ∨ j = 4 ∨ j = 5 by omega) with rfl | rfl | rfl | rfl | rfl | rfl <;> exact hs _ (by decide +kernel)) (fun i j hi hj hij => absurd (show i = j by omega) hij) st_hA
  exact ⟨adK 0, vk_R.of (ht _ (List.mem_append_right _ (tw_4 _ (List.mem_of_getElem? (i := 194) (by decide +kernel))))) (h2 0 (by omega)), adV 0, (h1.1 0 (by omega)).1, (h1.1 0 (by omega)).2.1, (h1.1 0 (by omega)).2.2.1, (h1.1 0 (by omega)).2.2.2⟩
set_option maxRecDepth 100000 in
theorem st_w19 {b : Nat} {s : State} (h : stG b s) (ht : stT b s) : ∃ a : Nat, vk_R "ParetoDesk$Parser" 140 "gain" a s ∧ StrC [103, 97, 105, 110] a (lw_sA s) s s.heap := by
  have hs := flat_of_before _ h
  obtain ⟨adK, adV, h1, h2⟩ := vk_Sof (args := #[Value.ref b]) (s := s) (N := 1) (tm := fun _ => (Term.string "ParetoDesk$Parser" 140)) (len := [4]) (byt := [[103, 97, 105, 110]]) (A := lw_sA s) (fun i hi => by
    obtain rfl : i = 0 := by omega
    decide) (fun i hi => hs _ (by decide +kernel)) (fun i hi => hs _ (by decide +kernel)) (fun i hi => hs _ (by decide +kernel)) (fun i hi => by
    obtain rfl : i = 0 := by omega
    exact hs _ (by decide +kernel)) (fun i hi j hj => by
    obtain rfl : i = 0 := by omega
    have hj : j < 4 := hj
    rcases (show j = 0 ∨ j = 1 ∨ j = 2 ∨ j = 3 by omega) with rfl | rfl | rfl | rfl <;> exact hs _ (by decide +kernel)) (fun i j hi hj hij => absurd (show i = j by omega) hij) st_hA
  exact ⟨adK 0, vk_R.of (ht _ (List.mem_append_right _ (tw_4 _ (List.mem_of_getElem? (i := 195) (by decide +kernel))))) (h2 0 (by omega)), adV 0, (h1.1 0 (by omega)).1, (h1.1 0 (by omega)).2.1, (h1.1 0 (by omega)).2.2.1, (h1.1 0 (by omega)).2.2.2⟩
set_option maxRecDepth 100000 in
theorem st_w20 {b : Nat} {s : State} (h : stG b s) (ht : stT b s) : ∃ a : Nat, vk_R "ParetoDesk$Parser" 142 "joy" a s ∧ StrC [106, 111, 121] a (lw_sA s) s s.heap := by
  have hs := flat_of_before _ h
  obtain ⟨adK, adV, h1, h2⟩ := vk_Sof (args := #[Value.ref b]) (s := s) (N := 1) (tm := fun _ => (Term.string "ParetoDesk$Parser" 142)) (len := [3]) (byt := [[106, 111, 121]]) (A := lw_sA s) (fun i hi => by
    obtain rfl : i = 0 := by omega
    decide) (fun i hi => hs _ (by decide +kernel)) (fun i hi => hs _ (by decide +kernel)) (fun i hi => hs _ (by decide +kernel)) (fun i hi => by
    obtain rfl : i = 0 := by omega
    exact hs _ (by decide +kernel)) (fun i hi j hj => by
    obtain rfl : i = 0 := by omega
    have hj : j < 3 := hj
    rcases (show j = 0 ∨ j = 1 ∨ j = 2 by omega) with rfl | rfl | rfl <;> exact hs _ (by decide +kernel)) (fun i j hi hj hij => absurd (show i = j by omega) hij) st_hA
  exact ⟨adK 0, vk_R.of (ht _ (List.mem_append_right _ (tw_4 _ (List.mem_of_getElem? (i := 196) (by decide +kernel))))) (h2 0 (by omega)), adV 0, (h1.1 0 (by omega)).1, (h1.1 0 (by omega)).2.1, (h1.1 0 (by omega)).2.2.1, (h1.1 0 (by omega)).2.2.2⟩
theorem st_m0 {b : Nat} {s : State} (h : stG b s) (ht : stT b s) : ∃ a : Nat, vk_R RX10 100 "the input buffer is full" a s := by
  have hs := flat_of_before _ h
  obtain ⟨a, c, cA, kA, q1, -⟩ := Cond.exactly_spec (args := #[Value.ref b]) (first := s) (o := none) (s := s) (idx := []) (t := Term.string RX10 100) (cls := "java/lang/String") (hs _ (by decide +kernel))
  exact ⟨a, vk_R.of (ht _ (List.mem_append_right _ (tw_4 _ (List.mem_of_getElem? (i := 111) (by decide +kernel))))) q1⟩
theorem st_m1 {b : Nat} {s : State} (h : stG b s) (ht : stT b s) : ∃ a : Nat, vk_R RX10 111 "no such length" a s := by
  have hs := flat_of_before _ h
  obtain ⟨a, c, cA, kA, q1, -⟩ := Cond.exactly_spec (args := #[Value.ref b]) (first := s) (o := none) (s := s) (idx := []) (t := Term.string RX10 111) (cls := "java/lang/String") (hs _ (by decide +kernel))
  exact ⟨a, vk_R.of (ht _ (List.mem_append_right _ (tw_4 _ (List.mem_of_getElem? (i := 127) (by decide +kernel))))) q1⟩
theorem st_m2 {b : Nat} {s : State} (h : stG b s) (ht : stT b s) : ∃ a : Nat, vk_R RX10 316 "no such layer" a s := by
  have hs := flat_of_before _ h
  obtain ⟨a, c, cA, kA, q1, -⟩ := Cond.exactly_spec (args := #[Value.ref b]) (first := s) (o := none) (s := s) (idx := []) (t := Term.string RX10 316) (cls := "java/lang/String") (hs _ (by decide +kernel))
  exact ⟨a, vk_R.of (ht _ (List.mem_append_right _ (tw_5 _ (List.mem_of_getElem? (i := 189) (by decide +kernel))))) q1⟩
theorem st_m3 {b : Nat} {s : State} (h : stG b s) (ht : stT b s) : ∃ a : Nat, vk_R RX10 420 "no such item" a s := by
  have hs := flat_of_before _ h
  obtain ⟨a, c, cA, kA, q1, -⟩ := Cond.exactly_spec (args := #[Value.ref b]) (first := s) (o := none) (s := s) (idx := []) (t := Term.string RX10 420) (cls := "java/lang/String") (hs _ (by decide +kernel))
  exact ⟨a, vk_R.of (ht _ (List.mem_append_right _ (tw_5 _ (List.mem_of_getElem? (i := 9) (by decide +kernel))))) q1⟩
theorem st_m4 {b : Nat} {s : State} (h : stG b s) (ht : stT b s) : ∃ a : Nat, vk_R RX10 424 "no such set" a s := by
  have hs := flat_of_before _ h
  obtain ⟨a, c, cA, kA, q1, -⟩ := Cond.exactly_spec (args := #[Value.ref b]) (first := s) (o := none) (s := s) (idx := []) (t := Term.string RX10 424) (cls := "java/lang/String") (hs _ (by decide +kernel))
  exact ⟨a, vk_R.of (ht _ (List.mem_append_right _ (tw_5 _ (List.mem_of_getElem? (i := 38) (by decide +kernel))))) q1⟩
theorem st_m5 {b : Nat} {s : State} (h : stG b s) (ht : stT b s) : ∃ a : Nat, vk_R RX10 428 "no such point" a s := by
  have hs := flat_of_before _ h
  obtain ⟨a, c, cA, kA, q1, -⟩ := Cond.exactly_spec (args := #[Value.ref b]) (first := s) (o := none) (s := s) (idx := []) (t := Term.string RX10 428) (cls := "java/lang/String") (hs _ (by decide +kernel))
  exact ⟨a, vk_R.of (ht _ (List.mem_append_right _ (tw_5 _ (List.mem_of_getElem? (i := 136) (by decide +kernel))))) q1⟩
theorem st_m6 {b : Nat} {s : State} (h : stG b s) (ht : stT b s) : ∃ a : Nat, vk_R RX10 432 "no such number is told" a s := by
  have hs := flat_of_before _ h
  obtain ⟨a, c, cA, kA, q1, -⟩ := Cond.exactly_spec (args := #[Value.ref b]) (first := s) (o := none) (s := s) (idx := []) (t := Term.string RX10 432) (cls := "java/lang/String") (hs _ (by decide +kernel))
  exact ⟨a, vk_R.of (ht _ (List.mem_append_right _ (tw_2 _ (List.mem_of_getElem? (i := 225) (by decide +kernel))))) q1⟩
theorem st_m7 {b : Nat} {s : State} (h : stG b s) (ht : stT b s) : ∃ a : Nat, vk_R RX10 436 "no such capacity" a s := by
  have hs := flat_of_before _ h
  obtain ⟨a, c, cA, kA, q1, -⟩ := Cond.exactly_spec (args := #[Value.ref b]) (first := s) (o := none) (s := s) (idx := []) (t := Term.string RX10 436) (cls := "java/lang/String") (hs _ (by decide +kernel))
  exact ⟨a, vk_R.of (ht _ (List.mem_append_right _ (tw_3 _ (List.mem_of_getElem? (i := 28) (by decide +kernel))))) q1⟩
set_option maxRecDepth 100000 in
theorem st_ws : ∀ w ∈ tx_ws, w ∈ lw_tbl := by decide +kernel
theorem st_words {b : Nat} {s : State} (h : stG b s) (ht : stT b s) : ∀ q ∈ tx_words, ∃ a : Nat, vk_R q.1 q.2.1 q.2.2.1 a s ∧ StrC q.2.2.2 a (lw_sA s) s s.heap := (List.forall_mem_cons.mpr ⟨st_w0 h ht, (List.forall_mem_cons.mpr ⟨st_w1 h ht, (List.forall_mem_cons.mpr ⟨st_w2 h ht, (List.forall_mem_cons.mpr ⟨st_w3 h ht, (List.forall_mem_cons.mpr ⟨st_w4 h ht, (List.forall_mem_cons.mpr ⟨st_w5 h ht, (List.forall_mem_cons.mpr ⟨st_w6 h ht, (List.forall_mem_cons.mpr ⟨st_w7 h ht, (List.forall_mem_cons.mpr ⟨st_w8 h ht, (List.forall_mem_cons.mpr ⟨st_w9 h ht, (List.forall_mem_cons.mpr ⟨st_w10 h ht, (List.forall_mem_cons.mpr ⟨st_w11 h ht, (List.forall_mem_cons.mpr ⟨st_w12 h ht, (List.forall_mem_cons.mpr ⟨st_w13 h ht, (List.forall_mem_cons.mpr ⟨st_w14 h ht, (List.forall_mem_cons.mpr ⟨st_w15 h ht, (List.forall_mem_cons.mpr ⟨st_w16 h ht, (List.forall_mem_cons.mpr ⟨st_w17 h ht, (List.forall_mem_cons.mpr ⟨st_w18 h ht, (List.forall_mem_cons.mpr ⟨st_w19 h ht, (List.forall_mem_cons.mpr ⟨st_w20 h ht, (fun _ h => absurd h List.not_mem_nil)⟩)⟩)⟩)⟩)⟩)⟩)⟩)⟩)⟩)⟩)⟩)⟩)⟩)⟩)⟩)⟩)⟩)⟩)⟩)⟩)⟩)
theorem st_strs {b : Nat} {s : State} (h : stG b s) (ht : stT b s) : ∀ q ∈ tx_str, ∃ a : Nat, vk_R RX10 q.1 q.2 a s := (List.forall_mem_cons.mpr ⟨st_m0 h ht, (List.forall_mem_cons.mpr ⟨st_m1 h ht, (List.forall_mem_cons.mpr ⟨st_m2 h ht, (List.forall_mem_cons.mpr ⟨st_m3 h ht, (List.forall_mem_cons.mpr ⟨st_m4 h ht, (List.forall_mem_cons.mpr ⟨st_m5 h ht, (List.forall_mem_cons.mpr ⟨st_m6 h ht, (List.forall_mem_cons.mpr ⟨st_m7 h ht, (fun _ h => absurd h List.not_mem_nil)⟩)⟩)⟩)⟩)⟩)⟩)⟩)⟩)
theorem st_nest {b : Nat} {s : State} (ht : stT b s) : ∀ q ∈ tx_nest, va_Nw (.methodLinkNest q.1 q.2.1 q.2.2.1 q.2.2.2) s := (List.forall_mem_cons.mpr ⟨va_Nw.of rfl (ht _ (List.mem_append_right _ (tw_4 _ (List.mem_of_getElem? (i := 207) (by decide +kernel))))), (List.forall_mem_cons.mpr ⟨va_Nw.of rfl (ht _ (List.mem_append_right _ (tw_4 _ (List.mem_of_getElem? (i := 210) (by decide +kernel))))), (fun _ h => absurd h List.not_mem_nil)⟩)⟩)
set_option maxHeartbeats 4000000 in
set_option maxRecDepth 100000 in
theorem st_dgO_m : ∀ j, j < 100 → (flatC (Jvm.Cond.and given_1 narrow_1))[14 + j]? = some (Jvm.Cond.eq (Jvm.Term.elem (Jvm.Term.static "java/lang/Integer" "DigitOnes" "[B") (Jvm.Term.int (Int32.ofNat j))) (Jvm.Term.int (dgO j))) := by decide +kernel
theorem st_dgO {b : Nat} {s : State} (h : stG b s) (ht : stT b s) : ∃ a : Nat, va_Z "java/lang/Integer" "DigitOnes" "[B" (.ref a) (lw_sA s) s s.heap ∧ va_T .byte a 100 (fun j => .int (dgO j)) (lw_sA s) s s.heap := by
  have hs := flat_of_before _ h
  obtain ⟨t, h1, h2⟩ := va_Tof (args := #[Value.ref b]) (s := s) (tm := Term.static "java/lang/Integer" "DigitOnes" "[B") (ty := .byte) (N := 100) (f := fun j => .int (dgO j)) (A := lw_sA s) (by decide) (hs _ (by decide +kernel)) (va_eqt (hs _ (by decide +kernel))) (fun j hj => va_eqt (hs _ (List.mem_of_getElem? (st_dgO_m j hj)))) st_hA
  exact ⟨t, va_Zref (ht _ (List.mem_append_right _ (tw_3 _ (List.mem_of_getElem? (i := 225) (by decide +kernel))))) (ht _ (List.mem_append_right _ (tw_1 _ (List.mem_of_getElem? (i := 23) (by decide +kernel))))) h1 st_hA, h2⟩
set_option maxHeartbeats 4000000 in
set_option maxRecDepth 100000 in
theorem st_dgT_m : ∀ j, j < 100 → (flatC (Jvm.Cond.and given_1 narrow_1))[117 + j]? = some (Jvm.Cond.eq (Jvm.Term.elem (Jvm.Term.static "java/lang/Integer" "DigitTens" "[B") (Jvm.Term.int (Int32.ofNat j))) (Jvm.Term.int (dgT j))) := by decide +kernel
theorem st_dgT {b : Nat} {s : State} (h : stG b s) (ht : stT b s) : ∃ a : Nat, va_Z "java/lang/Integer" "DigitTens" "[B" (.ref a) (lw_sA s) s s.heap ∧ va_T .byte a 100 (fun j => .int (dgT j)) (lw_sA s) s s.heap := by
  have hs := flat_of_before _ h
  obtain ⟨t, h1, h2⟩ := va_Tof (args := #[Value.ref b]) (s := s) (tm := Term.static "java/lang/Integer" "DigitTens" "[B") (ty := .byte) (N := 100) (f := fun j => .int (dgT j)) (A := lw_sA s) (by decide) (hs _ (by decide +kernel)) (va_eqt (hs _ (by decide +kernel))) (fun j hj => va_eqt (hs _ (List.mem_of_getElem? (st_dgT_m j hj)))) st_hA
  exact ⟨t, va_Zref (ht _ (List.mem_append_right _ (tw_3 _ (List.mem_of_getElem? (i := 227) (by decide +kernel))))) (ht _ (List.mem_append_right _ (tw_1 _ (List.mem_of_getElem? (i := 23) (by decide +kernel))))) h1 st_hA, h2⟩
theorem st_sel {C : String} {y : MethodName} {s : State} {args : Array Value} {n : Nat} (hy : y.cls ≠ "java/lang/invoke/MethodHandle" ∧ y.cls ≠ "java/lang/invoke/VarHandle") (hins : (Cond.instantiable C n).before args s = true) (hsame : (Cond.sameMethod y.cls y.cls y.name y.desc).before args s = true) (hpriv : (Cond.privateMethod y).before args s = true) (hinst : (Cond.instanceMethod y).before args s = true) : (Cond.selects C y y).before args s = true := by
  obtain ⟨c, k, hc, hk, -⟩ := Cond.instantiable_spec hins
  obtain ⟨mk, methM, hnamed, hmethM, -, -⟩ := Cond.instanceMethod_spec hinst
  have hfound : s.methodFound? y.cls y.name y.desc = some mk := State.methodFound?_of_named hnamed hy
  obtain ⟨-, ck, hck, hni⟩ := Cond.sameMethod_spec (findClass_of_methodNamed hnamed) hfound hsame
  have hsel : selectMethod {} s.vm c mk = .method mk := selectMethod_private hmethM (Cond.privateMethod_at hpriv mk methM hnamed hmethM)
  simp only [Cond.before, Cond.holds, Cond.value, hc, hfound, hnamed, hsel, hck]
  simp; exact hni
theorem st_prv {b : Nat} {s : State} (ht : stT b s) : ∀ x ∈ tx_prv, va_Nw (.selects "java/lang/StringBuilder" x x) s := (List.forall_mem_cons.mpr ⟨va_Nw.of rfl (st_sel (n := 4) ⟨by decide +kernel, by decide +kernel⟩ (ht _ (List.mem_append_right _ (tw_3 _ (List.mem_of_getElem? (i := 56) (by decide +kernel))))) (ht _ (List.mem_append_right _ (tw_5 _ (List.mem_of_getElem? (i := 229) (by decide +kernel))))) (ht _ (List.mem_append_right _ (tw_3 _ (List.mem_of_getElem? (i := 103) (by decide +kernel))))) (ht _ (List.mem_append_right _ (tw_3 _ (List.mem_of_getElem? (i := 104) (by decide +kernel)))))), (List.forall_mem_cons.mpr ⟨va_Nw.of rfl (st_sel (n := 4) ⟨by decide +kernel, by decide +kernel⟩ (ht _ (List.mem_append_right _ (tw_3 _ (List.mem_of_getElem? (i := 56) (by decide +kernel))))) (ht _ (List.mem_append_right _ (tw_5 _ (List.mem_of_getElem? (i := 230) (by decide +kernel))))) (ht _ (List.mem_append_right _ (tw_3 _ (List.mem_of_getElem? (i := 107) (by decide +kernel))))) (ht _ (List.mem_append_right _ (tw_3 _ (List.mem_of_getElem? (i := 108) (by decide +kernel)))))), (List.forall_mem_cons.mpr ⟨va_Nw.of rfl (st_sel (n := 4) ⟨by decide +kernel, by decide +kernel⟩ (ht _ (List.mem_append_right _ (tw_3 _ (List.mem_of_getElem? (i := 56) (by decide +kernel))))) (ht _ (List.mem_append_right _ (tw_5 _ (List.mem_of_getElem? (i := 231) (by decide +kernel))))) (ht _ (List.mem_append_right _ (tw_3 _ (List.mem_of_getElem? (i := 167) (by decide +kernel))))) (ht _ (List.mem_append_right _ (tw_3 _ (List.mem_of_getElem? (i := 168) (by decide +kernel)))))), (List.forall_mem_cons.mpr ⟨va_Nw.of rfl (st_sel (n := 4) ⟨by decide +kernel, by decide +kernel⟩ (ht _ (List.mem_append_right _ (tw_3 _ (List.mem_of_getElem? (i := 56) (by decide +kernel))))) (ht _ (List.mem_append_right _ (tw_5 _ (List.mem_of_getElem? (i := 232) (by decide +kernel))))) (ht _ (List.mem_append_right _ (tw_3 _ (List.mem_of_getElem? (i := 171) (by decide +kernel))))) (ht _ (List.mem_append_right _ (tw_3 _ (List.mem_of_getElem? (i := 172) (by decide +kernel)))))), (fun _ h => absurd h List.not_mem_nil)⟩)⟩)⟩)⟩)
theorem st_tw {b : Nat} {s : State} (h : stG b s) (ht : stT b s) : TW (lw_sA s) s s.heap := by
  have hs := flat_of_before _ h
  exact ⟨st_words h ht, va_Zof (ht _ (List.mem_append_right _ (tw_3 _ (List.mem_of_getElem? (i := 74) (by decide +kernel))))) (ht _ (List.mem_append_right _ (tw_1 _ (List.mem_of_getElem? (i := 14) (by decide +kernel))))) (va_eqt (hs _ (by decide +kernel))) st_hA, va_Zqof (ht _ (List.mem_append_right _ (tw_3 _ (List.mem_of_getElem? (i := 153) (by decide +kernel))))) (ht _ (List.mem_append_right _ (tw_1 _ (List.mem_of_getElem? (i := 20) (by decide +kernel))))) (hs _ (by decide +kernel)) st_hA, st_dgO h ht, st_dgT h ht, st_prv ht, va_Nw.of rfl (ht _ (List.mem_append_right _ (tw_3 _ (List.mem_of_getElem? (i := 128) (by decide +kernel)))))⟩
theorem st_tx {b : Nat} {s : State} (h : stG b s) (ht : stT b s) : TX (lw_sA s) s s.heap := by
  have hs := flat_of_before _ h
  exact ⟨fun w hw => vx_ot_at (State.WarmedH.refl s) rfl (tx_ot hw) (ht w (st_ws w hw)), st_strs h ht, vx_Zqof (ht _ (List.mem_append_right _ (tw_2 _ (List.mem_of_getElem? (i := 211) (by decide +kernel))))) (ht _ (List.mem_append_right _ (tw_1 _ (List.mem_of_getElem? (i := 24) (by decide +kernel))))) (hs _ (by decide +kernel)) st_hA, vx_Zqof (ht _ (List.mem_append_right _ (tw_2 _ (List.mem_of_getElem? (i := 213) (by decide +kernel))))) (ht _ (List.mem_append_right _ (tw_1 _ (List.mem_of_getElem? (i := 24) (by decide +kernel))))) (hs _ (by decide +kernel)) st_hA, st_nest ht, st_tw h ht⟩
theorem st_ni {b : Nat} {s : State} (ht : stT b s) : NI s := ⟨(List.forall_mem_cons.mpr ⟨va_Nw.of rfl (ht _ (List.mem_append_right _ (tw_1 _ (List.mem_of_getElem? (i := 177) (by decide +kernel))))), (List.forall_mem_cons.mpr ⟨va_Nw.of rfl (ht _ (List.mem_append_right _ (tw_2 _ (List.mem_of_getElem? (i := 106) (by decide +kernel))))), (List.forall_mem_cons.mpr ⟨va_Nw.of rfl (ht _ (List.mem_append_right _ (tw_1 _ (List.mem_of_getElem? (i := 239) (by decide +kernel))))), (List.forall_mem_cons.mpr ⟨va_Nw.of rfl (ht _ (List.mem_append_right _ (tw_2 _ (List.mem_of_getElem? (i := 72) (by decide +kernel))))), (List.forall_mem_cons.mpr ⟨va_Nw.of rfl (ht _ (List.mem_append_right _ (tw_1 _ (List.mem_of_getElem? (i := 164) (by decide +kernel))))), (List.forall_mem_cons.mpr ⟨va_Nw.of rfl (ht _ (List.mem_append_right _ (tw_1 _ (List.mem_of_getElem? (i := 40) (by decide +kernel))))), (List.forall_mem_cons.mpr ⟨va_Nw.of rfl (ht _ (List.mem_append_right _ (tw_2 _ (List.mem_of_getElem? (i := 54) (by decide +kernel))))), (List.forall_mem_cons.mpr ⟨va_Nw.of rfl (ht _ (List.mem_append_right _ (tw_1 _ (List.mem_of_getElem? (i := 145) (by decide +kernel))))), (List.forall_mem_cons.mpr ⟨va_Nw.of rfl (ht _ (List.mem_append_right _ (tw_1 _ (List.mem_of_getElem? (i := 224) (by decide +kernel))))), (List.forall_mem_cons.mpr ⟨va_Nw.of rfl (ht _ (List.mem_append_right _ (tw_1 _ (List.mem_of_getElem? (i := 46) (by decide +kernel))))), (List.forall_mem_cons.mpr ⟨va_Nw.of rfl (ht _ (List.mem_append_right _ (tw_1 _ (List.mem_of_getElem? (i := 154) (by decide +kernel))))), (fun _ h => absurd h List.not_mem_nil)⟩)⟩)⟩)⟩)⟩)⟩)⟩)⟩)⟩)⟩)⟩), va_AO.of (ht _ (List.mem_append_right _ (tw_1 _ (List.mem_of_getElem? (i := 153) (by decide +kernel)))))⟩
theorem st_K {b : Nat} {s : State} (ht : stT b s) : ∃ (D : va_G) (C : Nat → ClassId), va_K D vwCl (tyL C) s := by
  have hts : ∀ w ∈ WALL, w.before #[Value.ref b] s = true := fun w hw => ht w (List.mem_filter.mp hw).1
  obtain ⟨c0, iS0, hk0⟩ := u_known (C := RX0) (T := TX0) (N := 9) (n := 9) hts iwX0 (ht _ (List.mem_append_right _ (tw_1 _ (List.mem_of_getElem? (i := 176) (by decide +kernel)))))
  obtain ⟨c1, iS1, hk1⟩ := u_known (C := RX1) (T := TX1) (N := 4) (n := 4) hts iwX1 (ht _ (List.mem_append_right _ (tw_2 _ (List.mem_of_getElem? (i := 105) (by decide +kernel)))))
  obtain ⟨c2, iS2, hk2⟩ := u_known (C := RX2) (T := TX2) (N := 13) (n := 13) hts iwX2 (ht _ (List.mem_append_right _ (tw_1 _ (List.mem_of_getElem? (i := 238) (by decide +kernel)))))
  obtain ⟨c3, iS3, hk3⟩ := u_known (C := RX3) (T := TX3) (N := 8) (n := 8) hts iwX3 (ht _ (List.mem_append_right _ (tw_2 _ (List.mem_of_getElem? (i := 71) (by decide +kernel)))))
  obtain ⟨c4, iS4, hk4⟩ := u_known (C := RX4) (T := TX4) (N := 2) (n := 2) hts iwX4 (ht _ (List.mem_append_right _ (tw_1 _ (List.mem_of_getElem? (i := 163) (by decide +kernel)))))
  obtain ⟨c5, iS5, hk5⟩ := u_known (C := RX5) (T := TX5) (N := 9) (n := 9) hts iwX5 (ht _ (List.mem_append_right _ (tw_1 _ (List.mem_of_getElem? (i := 39) (by decide +kernel)))))
  obtain ⟨c6, iS6, hk6⟩ := u_known (C := RX6) (T := TX6) (N := 2) (n := 2) hts iwX6 (ht _ (List.mem_append_right _ (tw_1 _ (List.mem_of_getElem? (i := 147) (by decide +kernel)))))
  obtain ⟨c7, iS7, hk7⟩ := u_known (C := RX7) (T := TX7) (N := 4) (n := 4) hts iwX7 (ht _ (List.mem_append_right _ (tw_2 _ (List.mem_of_getElem? (i := 53) (by decide +kernel)))))
  obtain ⟨c8, iS8, hk8⟩ := u_known (C := RX8) (T := TX8) (N := 11) (n := 11) hts iwX8 (ht _ (List.mem_append_right _ (tw_1 _ (List.mem_of_getElem? (i := 45) (by decide +kernel)))))
  obtain ⟨c9, iS9, hk9⟩ := u_known (C := RX9) (T := TX9) (N := 2) (n := 2) hts iwX9 (ht _ (List.mem_append_right _ (tw_1 _ (List.mem_of_getElem? (i := 223) (by decide +kernel)))))
  obtain ⟨c10, iS10, hk10⟩ := u_known (C := RX10) (T := TX10) (N := 19) (n := 19) hts iwX10 (ht _ (List.mem_append_right _ (tw_1 _ (List.mem_of_getElem? (i := 31) (by decide +kernel)))))
  obtain ⟨c11, iS11, hk11⟩ := u_known (C := RJ0) (T := TJ0) (N := 4) (n := 4) hts iwJ0 (ht _ (List.mem_append_right _ (tw_4 _ (List.mem_of_getElem? (i := 12) (by decide +kernel)))))
  obtain ⟨c12, iS12, hk12⟩ := u_known (C := RJ4) (T := TJ4) (N := 4) (n := 4) hts iwJ4 (ht _ (List.mem_append_right _ (tw_3 _ (List.mem_of_getElem? (i := 56) (by decide +kernel)))))
  obtain ⟨a0, k0, p0, e0, f0, g0⟩ := Cond.arrayClass_spec (args := #[Value.ref b]) (first := s) (o := none) (s := s) (idx := []) (type := .int) (ht _ (List.mem_append_right _ (tw_1 _ (List.mem_of_getElem? (i := 112) (by decide +kernel)))))
  obtain ⟨a1, k1, p1, e1, f1, g1⟩ := Cond.arrayClass_spec (args := #[Value.ref b]) (first := s) (o := none) (s := s) (idx := []) (type := .byte) (ht _ (List.mem_append_right _ (tw_1 _ (List.mem_of_getElem? (i := 111) (by decide +kernel)))))
  obtain ⟨a2, k2, p2, e2, f2, g2⟩ := Cond.arrayClass_spec (args := #[Value.ref b]) (first := s) (o := none) (s := s) (idx := []) (type := .boolean) (ht _ (List.mem_append_right _ (tw_1 _ (List.mem_of_getElem? (i := 174) (by decide +kernel)))))
  obtain ⟨p3, a3, k3, e3, -, f3, g3, h3⟩ := Cond.arrayOver_spec (args := #[Value.ref b]) (first := s) (o := none) (s := s) (idx := []) (n := "ParetoDesk$Setup") (ht _ (List.mem_append_right _ (tw_1 _ (List.mem_of_getElem? (i := 153) (by decide +kernel)))))
  refine ⟨(fun k => [c0, c1, c2, c3, c4, c5, c6, c7, c8, c9, c10, c11, c12].getD k 0, fun k => [iS0, iS1, iS2, iS3, iS4, iS5, iS6, iS7, iS8, iS9, iS10, iS11, iS12].getD k (fun _ => 0)), fun k => [a0, a1, a2, a3].getD k 0, fun k q hq => ?_, fun k q hq => ?_⟩
  · match k, hq with
    | 0, hq => cases hq; exact hk0
    | 1, hq => cases hq; exact hk1
    | 2, hq => cases hq; exact hk2
    | 3, hq => cases hq; exact hk3
    | 4, hq => cases hq; exact hk4
    | 5, hq => cases hq; exact hk5
    | 6, hq => cases hq; exact hk6
    | 7, hq => cases hq; exact hk7
    | 8, hq => cases hq; exact hk8
    | 9, hq => cases hq; exact hk9
    | 10, hq => cases hq; exact hk10
    | 11, hq => cases hq; exact hk11
    | 12, hq => cases hq; exact hk12
    | k + 13, hq => simp [vwCl] at hq
  · match k, hq with
    | 0, hq => cases hq; exact ⟨fun n z => ⟨fun k h => (by cases h), k0, f0, p0, g0⟩, e0⟩
    | 1, hq => cases hq; exact ⟨fun n z => ⟨fun k h => (by cases h), k1, f1, p1, g1⟩, e1⟩
    | 2, hq => cases hq; exact ⟨fun n z => ⟨fun k h => (by cases h), k2, f2, p2, g2⟩, e2⟩
    | 3, hq => cases hq; exact ⟨fun n z => ⟨fun k h => (by cases h), k3, f3, p3, g3⟩, k3, p3, f3, g3, e3, h3⟩
    | k + 4, hq => simp at hq
