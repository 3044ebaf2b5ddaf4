/-! a row of setups: addresses pq k j (0 the object, 1 to 5 its rows), ints pi k j, rows pr k j -/
abbrev famW8 (C : Nat → ClassId) (qs : Nat) (pq : Nat → Nat → Nat) (pi : Nat → Nat → Int32) (pr : Nat → Nat → Nat → Int32) : va_W := [(qs, .inl (C 3, 8, .inr (.inr (.inr (.inr (fun i => some (pq i 0))))))), (pq 0 0, .inr (8, [.int (pi 0 0), .int (pi 0 1), .int (pi 0 2), .int (pi 0 3), .int (pi 0 4), .int (pi 0 5), .ref (pq 0 1), .ref (pq 0 2), .ref (pq 0 3), .ref (pq 0 4), .ref (pq 0 5)])), (pq 0 1, .inl (C 0, 12, .inl (pr 0 0))), (pq 0 2, .inl (C 0, 12, .inl (pr 0 1))), (pq 0 3, .inl (C 0, 12, .inl (pr 0 2))), (pq 0 4, .inl (C 0, 12, .inl (pr 0 3))), (pq 0 5, .inl (C 0, 12, .inl (pr 0 4))), (pq 1 0, .inr (8, [.int (pi 1 0), .int (pi 1 1), .int (pi 1 2), .int (pi 1 3), .int (pi 1 4), .int (pi 1 5), .ref (pq 1 1), .ref (pq 1 2), .ref (pq 1 3), .ref (pq 1 4), .ref (pq 1 5)])), (pq 1 1, .inl (C 0, 12, .inl (pr 1 0))), (pq 1 2, .inl (C 0, 12, .inl (pr 1 1))), (pq 1 3, .inl (C 0, 12, .inl (pr 1 2))), (pq 1 4, .inl (C 0, 12, .inl (pr 1 3))), (pq 1 5, .inl (C 0, 12, .inl (pr 1 4))), (pq 2 0, .inr (8, [.int (pi 2 0), .int (pi 2 1), .int (pi 2 2), .int (pi 2 3), .int (pi 2 4), .int (pi 2 5), .ref (pq 2 1), .ref (pq 2 2), .ref (pq 2 3), .ref (pq 2 4), .ref (pq 2 5)])), (pq 2 1, .inl (C 0, 12, .inl (pr 2 0))), (pq 2 2, .inl (C 0, 12, .inl (pr 2 1))), (pq 2 3, .inl (C 0, 12, .inl (pr 2 2))), (pq 2 4, .inl (C 0, 12, .inl (pr 2 3))), (pq 2 5, .inl (C 0, 12, .inl (pr 2 4))), (pq 3 0, .inr (8, [.int (pi 3 0), .int (pi 3 1), .int (pi 3 2), .int (pi 3 3), .int (pi 3 4), .int (pi 3 5), .ref (pq 3 1), .ref (pq 3 2), .ref (pq 3 3), .ref (pq 3 4), .ref (pq 3 5)])), (pq 3 1, .inl (C 0, 12, .inl (pr 3 0))), (pq 3 2, .inl (C 0, 12, .inl (pr 3 1))), (pq 3 3, .inl (C 0, 12, .inl (pr 3 2))), (pq 3 4, .inl (C 0, 12, .inl (pr 3 3))), (pq 3 5, .inl (C 0, 12, .inl (pr 3 4))), (pq 4 0, .inr (8, [.int (pi 4 0), .int (pi 4 1), .int (pi 4 2), .int (pi 4 3), .int (pi 4 4), .int (pi 4 5), .ref (pq 4 1), .ref (pq 4 2), .ref (pq 4 3), .ref (pq 4 4), .ref (pq 4 5)])), (pq 4 1, .inl (C 0, 12, .inl (pr 4 0))), (pq 4 2, .inl (C 0, 12, .inl (pr 4 1))), (pq 4 3, .inl (C 0, 12, .inl (pr 4 2))), (pq 4 4, .inl (C 0, 12, .inl (pr 4 3))), (pq 4 5, .inl (C 0, 12, .inl (pr 4 4))), (pq 5 0, .inr (8, [.int (pi 5 0), .int (pi 5 1), .int (pi 5 2), .int (pi 5 3), .int (pi 5 4), .int (pi 5 5), .ref (pq 5 1), .ref (pq 5 2), .ref (pq 5 3), .ref (pq 5 4), .ref (pq 5 5)])), (pq 5 1, .inl (C 0, 12, .inl (pr 5 0))), (pq 5 2, .inl (C 0, 12, .inl (pr 5 1))), (pq 5 3, .inl (C 0, 12, .inl (pr 5 2))), (pq 5 4, .inl (C 0, 12, .inl (pr 5 3))), (pq 5 5, .inl (C 0, 12, .inl (pr 5 4))), (pq 6 0, .inr (8, [.int (pi 6 0), .int (pi 6 1), .int (pi 6 2), .int (pi 6 3), .int (pi 6 4), .int (pi 6 5), .ref (pq 6 1), .ref (pq 6 2), .ref (pq 6 3), .ref (pq 6 4), .ref (pq 6 5)])), (pq 6 1, .inl (C 0, 12, .inl (pr 6 0))), (pq 6 2, .inl (C 0, 12, .inl (pr 6 1))), (pq 6 3, .inl (C 0, 12, .inl (pr 6 2))), (pq 6 4, .inl (C 0, 12, .inl (pr 6 3))), (pq 6 5, .inl (C 0, 12, .inl (pr 6 4))), (pq 7 0, .inr (8, [.int (pi 7 0), .int (pi 7 1), .int (pi 7 2), .int (pi 7 3), .int (pi 7 4), .int (pi 7 5), .ref (pq 7 1), .ref (pq 7 2), .ref (pq 7 3), .ref (pq 7 4), .ref (pq 7 5)])), (pq 7 1, .inl (C 0, 12, .inl (pr 7 0))), (pq 7 2, .inl (C 0, 12, .inl (pr 7 1))), (pq 7 3, .inl (C 0, 12, .inl (pr 7 2))), (pq 7 4, .inl (C 0, 12, .inl (pr 7 3))), (pq 7 5, .inl (C 0, 12, .inl (pr 7 4)))]
abbrev famW2 (C : Nat → ClassId) (qs : Nat) (pq : Nat → Nat → Nat) (pi : Nat → Nat → Int32) (pr : Nat → Nat → Nat → Int32) : va_W := [(qs, .inl (C 3, 2, .inr (.inr (.inr (.inr (fun i => some (pq i 0))))))), (pq 0 0, .inr (8, [.int (pi 0 0), .int (pi 0 1), .int (pi 0 2), .int (pi 0 3), .int (pi 0 4), .int (pi 0 5), .ref (pq 0 1), .ref (pq 0 2), .ref (pq 0 3), .ref (pq 0 4), .ref (pq 0 5)])), (pq 0 1, .inl (C 0, 12, .inl (pr 0 0))), (pq 0 2, .inl (C 0, 12, .inl (pr 0 1))), (pq 0 3, .inl (C 0, 12, .inl (pr 0 2))), (pq 0 4, .inl (C 0, 12, .inl (pr 0 3))), (pq 0 5, .inl (C 0, 12, .inl (pr 0 4))), (pq 1 0, .inr (8, [.int (pi 1 0), .int (pi 1 1), .int (pi 1 2), .int (pi 1 3), .int (pi 1 4), .int (pi 1 5), .ref (pq 1 1), .ref (pq 1 2), .ref (pq 1 3), .ref (pq 1 4), .ref (pq 1 5)])), (pq 1 1, .inl (C 0, 12, .inl (pr 1 0))), (pq 1 2, .inl (C 0, 12, .inl (pr 1 1))), (pq 1 3, .inl (C 0, 12, .inl (pr 1 2))), (pq 1 4, .inl (C 0, 12, .inl (pr 1 3))), (pq 1 5, .inl (C 0, 12, .inl (pr 1 4)))]
def famU {α : Type} (k : Nat) (v : α) (f : Nat → α) : Nat → α := fun i => if i = k then v else f i
def famI (a b c d e f : Int32) : Nat → Int32 := fun j => match j with
  | 0 => a
  | 1 => b
  | 2 => c
  | 3 => d
  | 4 => e
  | 5 => f
  | _ => 0
def famR (a b c d e : Nat → Int32) : Nat → Nat → Int32 := fun j => match j with
  | 0 => a
  | 1 => b
  | 2 => c
  | 3 => d
  | 4 => e
  | _ => fun _ => 0
/-- the oldest one goes to the end -/
def famT {α : Type} (f : Nat → α) : Nat → α := fun i => match i with
  | 0 => f 1
  | 1 => f 2
  | 2 => f 3
  | 3 => f 4
  | 4 => f 5
  | 5 => f 6
  | 6 => f 7
  | 7 => f 0
  | n => f n
theorem fam_n {k n : Nat} (hk : k < n ∧ k < 8) : (Int32.ofNat k).toNatClampNeg = k ∧ vp_in (Int32.ofNat k) n := by
  have e2 : (Int32.ofNat k).toNatClampNeg = k := by
    rcases (show k = 0 ∨ k = 1 ∨ k = 2 ∨ k = 3 ∨ k = 4 ∨ k = 5 ∨ k = 6 ∨ k = 7 by omega) with rfl | rfl | rfl | rfl | rfl | rfl | rfl | rfl <;> decide
  refine ⟨e2, ?_⟩
  rw [vp_in_iff]
  have : (Int32.ofNat k).toInt = k := by
    rcases (show k = 0 ∨ k = 1 ∨ k = 2 ∨ k = 3 ∨ k = 4 ∨ k = 5 ∨ k = 6 ∨ k = 7 by omega) with rfl | rfl | rfl | rfl | rfl | rfl | rfl | rfl <;> decide
  omega
theorem fam_ald2 {args : Array Value} {below : List Frame} {D : va_G} {cl : List vw_C} {C : Nat → ClassId} {p : Program} {l : Launch} {e : Env} {R : Room} {s : State} {m : MethodId} {meth : Method} {c : Code} {H : Heap} {locs : List Loc} {cells slots : Nat} {Q : State → Prop} {pc : Nat} {ls : Array Slot} {rest : List Value} {cc : ByteArray} {ws : va_W} {a n : Nat} {f : Nat → Option Nat} {v : Nat} (k : Nat) (hexec : p.tables.exec = Jvm.exec) (hb : c.code = cc) (hK : va_K D cl (tyL C) s) (hP : va_P D cl ws H) (q0 : Nat) (ha : ws[q0]? = some (a, .inl (C 3, n, .inr (.inr (.inr (.inr f)))))) (hk : k < n ∧ k < 8) {i : Int32} (hi : i = Int32.ofNat k) (hf : f k = some v) (hdg : decode cc pc = .ok (.aaload, 1))
    (kk : W p l e R s m args below meth c H locs cells slots Q (F0 m (pc + 1) ls (.ref v :: rest))) : W p l e R s m args below meth c H locs cells slots Q (F0 m pc ls (.int i :: .ref a :: rest)) := by
  obtain ⟨e2, e3⟩ := fam_n hk
  subst hi
  refine va_aldq hexec hb hK hP q0 3 ha rfl e3 hdg ?_
  rw [e2, hf]
  exact kk
theorem fam_ald {args : Array Value} {below : List Frame} {D : va_G} {cl : List vw_C} {C : Nat → ClassId} {p : Program} {l : Launch} {e : Env} {R : Room} {s : State} {m : MethodId} {meth : Method} {c : Code} {H : Heap} {locs : List Loc} {cells slots : Nat} {Q : State → Prop} {pc : Nat} {ls : Array Slot} {rest : List Value} {cc : ByteArray} {ws : va_W} {a n : Nat} {pq : Nat → Nat → Nat} (k : Nat) (hexec : p.tables.exec = Jvm.exec) (hb : c.code = cc) (hK : va_K D cl (tyL C) s) (hP : va_P D cl ws H) (q0 : Nat) (ha : ws[q0]? = some (a, .inl (C 3, n, .inr (.inr (.inr (.inr (fun i => some (pq i 0)))))))) (hk : k < n ∧ k < 8) {i : Int32} (hi : i = Int32.ofNat k) (hdg : decode cc pc = .ok (.aaload, 1))
    (kk : W p l e R s m args below meth c H locs cells slots Q (F0 m (pc + 1) ls (.ref (pq k 0) :: rest))) : W p l e R s m args below meth c H locs cells slots Q (F0 m pc ls (.int i :: .ref a :: rest)) :=
  fam_ald2 k hexec hb hK hP q0 ha hk hi rfl hdg kk
theorem fam_ast {args : Array Value} {below : List Frame} {D : va_G} {C : Nat → ClassId} {p : Program} {l : Launch} {e : Env} {R : Room} {s : State} {m : MethodId} {meth : Method} {c : Code} {H : Heap} {locs : List Loc} {cells slots : Nat} {Q : State → Prop} {pc : Nat} {ls : Array Slot} {rest : List Value} {cc : ByteArray} {ws : va_W} {a n : Nat} {A : Nat → Prop} {H0 : Heap} {f : Nat → Option Nat} {v : Nat} {vs : List Value} (k : Nat) (hexec : p.tables.exec = Jvm.exec) (hb : c.code = cc) (hK : va_K D vwCl (tyL C) s) (hP : va_P D vwCl ws H) (hD : va_D A ws) (hS : va_S A H0 H locs) (q0 qk : Nat) (ha : ws[q0]? = some (a, .inl (C 3, n, .inr (.inr (.inr (.inr f)))))) (hv : ws[qk]? = some (v, .inr (8, vs))) (hk : k < n ∧ k < 8) {i : Int32} (hi : i = Int32.ofNat k) (hdg : decode cc pc = .ok (.aastore, 1))
    (kk : ∀ (H1 : Heap) (locs1 : List Loc), va_P D vwCl (ws.set q0 (a, .inl (C 3, n, .inr (.inr (.inr (.inr (va_up f k (some v)))))))) H1 → va_D A (ws.set q0 (a, .inl (C 3, n, .inr (.inr (.inr (.inr (va_up f k (some v)))))))) → va_S A H0 H1 locs1 → W p l e R s m args below meth c H1 locs1 cells slots Q (F0 m (pc + 1) ls rest)) : W p l e R s m args below meth c H locs cells slots Q (F0 m pc ls (.ref v :: .int i :: .ref a :: rest)) := by
  obtain ⟨e2, e3⟩ := fam_n hk
  subst hi
  refine va_astq (D := D) hexec hb hK hP hD hS q0 3 qk 8 ha rfl hv rfl e3 hdg ?_
  rw [e2]
  exact kk
/-- an array of references is what its elements below its length are -/
theorem fam_arr {D : va_G} {cl : List vw_C} {ws : va_W} {H : Heap} {a n : Nat} {cA : ClassId} {f g : Nat → Option Nat} (hP : va_P D cl ws H) (q0 : Nat) (ha : ws[q0]? = some (a, .inl (cA, n, .inr (.inr (.inr (.inr f)))))) (hfg : ∀ i, i < n → f i = g i) : va_P D cl (ws.set q0 (a, .inl (cA, n, .inr (.inr (.inr (.inr g)))))) H := by
  have e : vp_cell cA (n, .inr (.inr (.inr (.inr f)))) = vp_cell cA (n, .inr (.inr (.inr (.inr g)))) := by
    unfold vp_cell arrV
    dsimp only
    congr 1
    congr 1
    funext j
    rw [hfg j.val j.isLt]
  have hlt := (List.getElem?_eq_some_iff.mp ha).1
  intro k q hq
  by_cases c : k = q0
  · subst c
    rw [List.getElem?_set_self hlt] at hq
    obtain rfl := Option.some.inj hq
    have := hP _ _ ha
    unfold va_at at this ⊢
    dsimp only at this ⊢
    rw [← e]
    exact this
  · rw [List.getElem?_set_ne (fun z => c z.symm)] at hq
    exact hP k q hq
theorem fam_D {A : Nat → Prop} {ws ws' : va_W} (hD : va_D A ws) (h : ws'.map Prod.fst = ws.map Prod.fst) : va_D A ws' := by
  have key : ∀ (i : Nat) (p : Nat × va_E), ws'[i]? = some p → ∃ p2, ws[i]? = some p2 ∧ p2.1 = p.1 := by
    intro i p hp
    have h1 : (ws'.map Prod.fst)[i]? = some p.1 := by rw [List.getElem?_map, hp]; rfl
    rw [h, List.getElem?_map] at h1
    cases h2 : ws[i]? with
    | none => rw [h2] at h1; cases h1
    | some p2 => rw [h2] at h1; exact ⟨p2, rfl, Option.some.inj h1⟩
  refine ⟨fun i j p q hp hq e => ?_, fun i p hp => ?_⟩
  · obtain ⟨p2, a1, a2⟩ := key i p hp
    obtain ⟨q2, b1, b2⟩ := key j q hq
    exact hD.1 i j p2 q2 a1 b1 (by rw [a2, b2, e])
  · obtain ⟨p2, a1, a2⟩ := key i p hp
    rw [← a2]
    exact hD.2 i p2 a1
