/-! WORLDS WITH A BUNDLE BEHIND: a list of cells l, and a bundle b that no row looks into; the script; strings that the method made -/
theorem bd_ix {l lc b : va_W} {is : List Nat} (hC : is.map (fun i => l[i]?) = lc.map some) {k : Nat} {q : Nat × va_E} (hq : (lc ++ b)[k]? = some q) : (∃ i, is[k]? = some i ∧ l[i]? = some q ∧ i < l.length) ∨ (is.length ≤ k ∧ b[k - is.length]? = some q) := by
  have hlen : is.length = lc.length := by have := congrArg List.length hC; simpa using this
  by_cases h : k < lc.length
  · rw [List.getElem?_append_left h] at hq
    have h1 : (is.map (fun i => l[i]?))[k]? = some (some q) := by rw [hC, List.getElem?_map, hq]; rfl
    rw [List.getElem?_map] at h1
    cases hi : is[k]? with
    | none => rw [hi] at h1; cases h1
    | some i =>
      rw [hi] at h1
      have h2 : l[i]? = some q := Option.some.inj h1
      exact Or.inl ⟨i, rfl, h2, (List.getElem?_eq_some_iff.mp h2).1⟩
  · rw [List.getElem?_append_right (by omega)] at hq
    exact Or.inr ⟨by omega, by rw [hlen]; exact hq⟩
theorem bd_at {l b : va_W} {i : Nat} {q : Nat × va_E} (h : l[i]? = some q) : (l ++ b)[i]? = some q := by
  rw [List.getElem?_append_left (List.getElem?_eq_some_iff.mp h).1]; exact h
theorem bd_atR {l b : va_W} {i : Nat} {q : Nat × va_E} (h : b[i]? = some q) : (l ++ b)[l.length + i]? = some q := by
  rw [List.getElem?_append_right (by omega), show l.length + i - l.length = i by omega]; exact h
theorem bd_P {D : va_G} {cl : List vw_C} {l lc b : va_W} {H : Heap} (h : va_P D cl (l ++ b) H) (is : List Nat) (hC : is.map (fun i => l[i]?) = lc.map some) : va_P D cl (lc ++ b) H := by
  intro k q hq
  rcases bd_ix hC hq with ⟨i, -, h2, -⟩ | ⟨-, h2⟩
  · exact h i q (bd_at h2)
  · exact h _ q (bd_atR h2)
theorem bd_nd {is : List Nat} (hn : va_nd is = true) {i j x : Nat} (hi : is[i]? = some x) (hj : is[j]? = some x) : i = j := by
  induction is generalizing i j with
  | nil => simp at hi
  | cons a is ih =>
    simp only [va_nd, Bool.and_eq_true] at hn
    have hno : ∀ k, is[k]? ≠ some a := fun k hk => by
      have := List.mem_of_getElem? hk
      have h1 := hn.1
      simp_all
    cases i with
    | zero =>
      cases j with
      | zero => rfl
      | succ j =>
        simp only [List.getElem?_cons_zero, Option.some.injEq] at hi
        subst hi
        exact absurd hj (hno j)
    | succ i =>
      cases j with
      | zero =>
        simp only [List.getElem?_cons_zero, Option.some.injEq] at hj
        subst hj
        exact absurd hi (hno i)
      | succ j => rw [ih hn.2 hi hj]
theorem bd_D {A : Nat → Prop} {l lc b : va_W} (h : va_D A (l ++ b)) (is : List Nat) (hC : is.map (fun i => l[i]?) = lc.map some) (hn : va_nd is = true) : va_D A (lc ++ b) := by
  refine ⟨fun i j p q hp hq e => ?_, fun k q hq => ?_⟩
  · rcases bd_ix hC hp with ⟨x, a1, a2, a3⟩ | ⟨a1, a2⟩
    · rcases bd_ix hC hq with ⟨y, b1, b2, b3⟩ | ⟨b1, b2⟩
      · have := h.1 x y p q (bd_at a2) (bd_at b2) e
        subst this
        exact bd_nd hn a1 b1
      · have := h.1 x _ p q (bd_at a2) (bd_atR b2) e
        omega
    · rcases bd_ix hC hq with ⟨y, b1, b2, b3⟩ | ⟨b1, b2⟩
      · have := h.1 _ y p q (bd_atR a2) (bd_at b2) e
        omega
      · have := h.1 _ _ p q (bd_atR a2) (bd_atR b2) e
        omega
  · rcases bd_ix hC hq with ⟨i, -, h2, -⟩ | ⟨-, h2⟩
    · exact h.2 i q (bd_at h2)
    · exact h.2 _ q (bd_atR h2)
theorem bd_free {A0 : Nat → Prop} {l lc b : va_W} {H0 H : Heap} {locs : List Loc} (hD : va_D A0 (l ++ b)) (hS : va_S A0 H0 H locs) (hA : ∀ q, H0.size ≤ q → A0 q) (is : List Nat) (hC : is.map (fun i => l[i]?) = lc.map some) : ∀ q, va_A (lc ++ b) H.size q → A0 q := by
  intro q h
  rcases h with ⟨k, e, h⟩ | h
  · rcases bd_ix hC h with ⟨i, -, h2, -⟩ | ⟨-, h2⟩
    · exact hD.2 i (q, e) (bd_at h2)
    · exact hD.2 _ (q, e) (bd_atR h2)
  · exact hA q (Nat.le_trans hS.1 h)
/-- the address of a cell that isn't the callee's -/
theorem bd_no {A : Nat → Prop} {D : va_G} {cl : List vw_C} {l lc b : va_W} {H : Heap} (hP : va_P D cl (l ++ b) H) (hD : va_D A (l ++ b)) (is : List Nat) (hC : is.map (fun i => l[i]?) = lc.map some) (i : Nat) {q : Nat × va_E} (hi : l[i]? = some q) (hn : i ∉ is) : ¬ va_A (lc ++ b) H.size q.1 := by
  intro h
  rcases h with ⟨k, e, h⟩ | h
  · have hil := (List.getElem?_eq_some_iff.mp hi).1
    rcases bd_ix hC h with ⟨j, a1, a2, -⟩ | ⟨-, a2⟩
    · have := hD.1 i j q (q.1, e) (bd_at hi) (bd_at a2) rfl
      subst this
      exact hn (List.mem_of_getElem? a1)
    · have := hD.1 i _ q (q.1, e) (bd_at hi) (bd_atR a2) rfl
      omega
  · exact Nat.lt_irrefl _ (Nat.lt_of_lt_of_le (hP i q (bd_at hi)).lt h)
/-- behind a call with the bundle -/
theorem bd_join {A0 : Nat → Prop} {D : va_G} {cl : List vw_C} {l lc lr l1 b b1 : va_W} {H H1 : Heap} (hP : va_P D cl (l ++ b) H) (hD : va_D A0 (l ++ b)) (isC isR : List Nat) (hC : isC.map (fun i => l[i]?) = lc.map some) (hR : isR.map (fun i => l[i]?) = lr.map some) (hn : va_nd isR = true) (hdis : ∀ i ∈ isR, i ∉ isC)
    (hk : ∀ q : Nat, q < H.size → ¬ va_A (lc ++ b) H.size q → H1[q]? = H[q]?) (hF : ∀ q, va_A (lc ++ b) H.size q → A0 q) (hP1 : va_P D cl (l1 ++ b1) H1) (hD1 : va_D (va_A (lc ++ b) H.size) (l1 ++ b1)) : va_P D cl (lr ++ (l1 ++ b1)) H1 ∧ va_D A0 (lr ++ (l1 ++ b1)) := by
  have apart : ∀ (k : Nat) (q : Nat × va_E), lr[k]? = some q → q.1 < H.size ∧ ¬ va_A (lc ++ b) H.size q.1 ∧ ∃ i, isR[k]? = some i ∧ l[i]? = some q := by
    intro k q hq
    have hq2 : (lr ++ ([] : va_W))[k]? = some q := bd_at hq
    rcases bd_ix hR hq2 with ⟨i, h1, h2, -⟩ | ⟨-, h2⟩
    · exact ⟨(hP i q (bd_at h2)).lt, bd_no hP hD isC hC i h2 (hdis i (List.mem_of_getElem? h1)), i, h1, h2⟩
    · simp at h2
  refine ⟨va_P.app (fun k q hq => ?_) hP1, va_D.app ⟨fun i j p q hp hq e => ?_, fun k q hq => ?_⟩ (hD1.weaken (fun k q _ h => hF q.1 h)) (fun i j x y hx hy hxy => ?_)⟩
  · obtain ⟨g1, g2, i, h1, h2⟩ := apart k q hq
    exact (hP i q (bd_at h2)).kept (hk q.1 g1 g2)
  · obtain ⟨-, -, x, h1, h2⟩ := apart i p hp
    obtain ⟨-, -, y, h3, h4⟩ := apart j q hq
    have := hD.1 x y p q (bd_at h2) (bd_at h4) e
    subst this
    exact bd_nd hn h1 h3
  · obtain ⟨-, -, i, h1, h2⟩ := apart k q hq
    exact hD.2 i q (bd_at h2)
  · exact (apart i x hx).2.1 (by rw [hxy]; exact hD1.2 j y hy)
theorem bd_nil {w : va_W} : w ++ [] = w := List.append_nil w
/-- behind a call without the bundle, of a caller that has it -/
theorem bd_joinL {A0 : Nat → Prop} {D : va_G} {cl : List vw_C} {l lc lr l1 b : va_W} {H H1 : Heap} (hP : va_P D cl (l ++ b) H) (hD : va_D A0 (l ++ b)) (isC isR : List Nat) (hC : isC.map (fun i => l[i]?) = lc.map some) (hR : isR.map (fun i => l[i]?) = lr.map some) (hn : va_nd isR = true) (hdis : ∀ i ∈ isR, i ∉ isC)
    (hk : ∀ q : Nat, q < H.size → ¬ va_A lc H.size q → H1[q]? = H[q]?) (hF : ∀ q, va_A lc H.size q → A0 q) (hP1 : va_P D cl l1 H1) (hD1 : va_D (va_A lc H.size) l1) : va_P D cl (lr ++ (l1 ++ b)) H1 ∧ va_D A0 (lr ++ (l1 ++ b)) := by
  have no : ∀ (i : Nat) (q : Nat × va_E), (l ++ b)[i]? = some q → (i < l.length → i ∉ isC) → q.1 < H.size ∧ ¬ va_A lc H.size q.1 := by
    intro i q hi hni
    refine ⟨(hP i q hi).lt, fun h => ?_⟩
    rcases h with ⟨k, e, h⟩ | h
    · have h2 : (lc ++ ([] : va_W))[k]? = some (q.1, e) := bd_at h
      rcases bd_ix hC h2 with ⟨j, a1, a2, a3⟩ | ⟨-, a2⟩
      · have := hD.1 i j q (q.1, e) hi (bd_at a2) rfl
        subst this
        exact hni a3 (List.mem_of_getElem? a1)
      · simp at a2
    · exact Nat.lt_irrefl _ (Nat.lt_of_lt_of_le (hP i q hi).lt h)
  have apart : ∀ (k : Nat) (q : Nat × va_E), lr[k]? = some q → q.1 < H.size ∧ ¬ va_A lc H.size q.1 ∧ ∃ i, isR[k]? = some i ∧ l[i]? = some q := by
    intro k q hq
    have hq2 : (lr ++ ([] : va_W))[k]? = some q := bd_at hq
    rcases bd_ix hR hq2 with ⟨i, h1, h2, -⟩ | ⟨-, h2⟩
    · have := no i q (bd_at h2) (fun _ => hdis i (List.mem_of_getElem? h1))
      exact ⟨this.1, this.2, i, h1, h2⟩
    · simp at h2
  have apB : ∀ (k : Nat) (q : Nat × va_E), b[k]? = some q → q.1 < H.size ∧ ¬ va_A lc H.size q.1 := fun k q hq => no _ q (bd_atR hq) (fun h => by omega)
  have dB : va_D A0 b := ⟨fun i j p q hp hq e => by have := hD.1 _ _ p q (bd_atR (l := l) hp) (bd_atR (l := l) hq) e; omega, fun k q hq => hD.2 _ q (bd_atR hq)⟩
  have dR : va_D A0 lr := ⟨fun i j p q hp hq e => by
    obtain ⟨-, -, x, h1, h2⟩ := apart i p hp
    obtain ⟨-, -, y, h3, h4⟩ := apart j q hq
    have := hD.1 x y p q (bd_at h2) (bd_at h4) e
    subst this
    exact bd_nd hn h1 h3, fun k q hq => by
    obtain ⟨-, -, i, h1, h2⟩ := apart k q hq
    exact hD.2 i q (bd_at h2)⟩
  have d1 : va_D A0 l1 := hD1.weaken (fun k q _ h => hF q.1 h)
  refine ⟨va_P.app (fun k q hq => ?_) (va_P.app hP1 (fun k q hq => ?_)), va_D.app dR (va_D.app d1 dB (fun i j x y hx hy hxy => ?_)) (fun i j x y hx hy hxy => ?_)⟩
  · obtain ⟨g1, g2, i, h1, h2⟩ := apart k q hq
    exact (hP i q (bd_at h2)).kept (hk q.1 g1 g2)
  · obtain ⟨g1, g2⟩ := apB k q hq
    exact (hP _ q (bd_atR hq)).kept (hk q.1 g1 g2)
  · exact (apB j y hy).2 (by rw [← hxy]; exact hD1.2 i x hx)
  · obtain ⟨g1, g2, z, h1, h2⟩ := apart i x hx
    by_cases c : j < l1.length
    · rw [List.getElem?_append_left c] at hy
      exact g2 (by rw [hxy]; exact hD1.2 j y hy)
    · rw [List.getElem?_append_right (by omega)] at hy
      have h3 := (List.getElem?_eq_some_iff.mp h2).1
      have := hD.1 z _ x y (bd_at h2) (bd_atR (l := l) hy) hxy
      omega
/-- a cell made last goes ahead of the bundle -/
theorem bd_ixm {l b : va_W} {x : Nat × va_E} {k : Nat} {q : Nat × va_E} (h : ((l ++ [x]) ++ b)[k]? = some q) : ∃ j, ((l ++ b) ++ [x])[j]? = some q ∧ j = (if k < l.length then k else if k = l.length then l.length + b.length else k - 1) := by
  refine ⟨_, ?_, rfl⟩
  by_cases c : k < l.length
  · rw [if_pos c]
    rw [List.getElem?_append_left (by simp; omega), List.getElem?_append_left c] at h
    exact bd_at (bd_at h)
  · rw [if_neg c]
    by_cases c2 : k = l.length
    · rw [if_pos c2]
      subst c2
      rw [List.getElem?_append_left (by simp), List.getElem?_append_right (Nat.le_refl _), Nat.sub_self] at h
      rw [List.getElem?_append_right (by simp), show l.length + b.length - (l ++ b).length = 0 by simp]
      exact h
    · rw [if_neg c2]
      rw [List.getElem?_append_right (by simp; omega)] at h
      have h2 : b[k - 1 - l.length]? = some q := by rw [← h]; congr 1; simp; omega
      have h3 := bd_atR (l := l) h2
      rw [show l.length + (k - 1 - l.length) = k - 1 by omega] at h3
      exact bd_at h3
theorem bd_mvP {D : va_G} {cl : List vw_C} {l b : va_W} {x : Nat × va_E} {H : Heap} (h : va_P D cl ((l ++ b) ++ [x]) H) : va_P D cl ((l ++ [x]) ++ b) H := fun k q hq => (bd_ixm hq).elim fun j hj => h j q hj.1
theorem bd_mvD {A : Nat → Prop} {l b : va_W} {x : Nat × va_E} (h : va_D A ((l ++ b) ++ [x])) : va_D A ((l ++ [x]) ++ b) := by
  refine ⟨fun i j p q hp hq e => ?_, fun k q hq => (bd_ixm hq).elim fun j hj => h.2 j q hj.1⟩
  have li := (List.getElem?_eq_some_iff.mp hp).1
  have lj := (List.getElem?_eq_some_iff.mp hq).1
  simp only [List.length_append, List.length_cons, List.length_nil] at li lj
  obtain ⟨x1, a1, a2⟩ := bd_ixm hp
  obtain ⟨x2, b1, b2⟩ := bd_ixm hq
  have := h.1 x1 x2 p q a1 b1 e
  rw [a2, b2] at this
  split at this <;> split at this <;> first | omega | (split at this <;> first | omega | (split at this <;> omega))
/-- the script -/
def ScrC (L : Nat) (xs : Nat → Int32) (b : Nat) (A : Nat → Prop) (U : State) (H : Heap) : Prop := va_X b L xs U H ∧ b < H.size ∧ ¬ A b
theorem ScrC.moved {L : Nat} {xs : Nat → Int32} {b : Nat} {A : Nat → Prop} {u U : State} {H : Heap} (hvm : u.vm.Alike U.vm) (h : ScrC L xs b A u H) : ScrC L xs b A U H := ⟨h.1.moved hvm, h.2⟩
theorem ScrC.call {L : Nat} {xs : Nat → Int32} {b : Nat} {A B : Nat → Prop} {s U : State} {H : Heap} {locs : List Loc} (h : ScrC L xs b A s s.heap) (hS : va_S A s.heap H locs) (hF : ∀ q, B q → A q) (hU : U.heap = H) (hW : s.WarmedH U.vm) : ScrC L xs b B U U.heap := by
  rw [hU]
  exact ⟨(h.1.kept (H1 := H) (hS.2.1 b h.2.1 h.2.2)).moved hW.alike, Nat.lt_of_lt_of_le h.2.1 hS.1, fun z => h.2.2 (hF b z)⟩
/-- words of calls -/
theorem gc_u {own C owner : String} {idx : Nat} {x y : MethodName} {w : Cond} (h1 : Cond.methodLink own idx x ∈ WALL) (h2 : Cond.sameMethod x.cls owner x.name x.desc ∈ WALL) (h3 : Cond.selects C x y ∈ WALL) (h4 : Cond.instanceMethod y ∈ WALL) (h5 : Cond.initialized y.cls ∈ WALL) (h6 : w ∈ WALL) : GoodIn WALL (va_wsU own idx C owner x y (w :: WALL)) :=
  gc_1 h1 (gc_1 h2 (gc_1 h3 (gc_1 h4 (gc_1 h5 (gc_0 h6)))))
theorem gc_o {own C owner : String} {idx : Nat} {x y : MethodName} {w : Cond} (h1 : Cond.methodLink own idx x ∈ WALL) (h2 : Cond.sameMethod x.cls owner x.name x.desc ∈ WALL) (h0 : Cond.instanceMethod ⟨owner, x.name, x.desc⟩ ∈ WALL) (h3 : Cond.selects C x y ∈ WALL) (h4 : Cond.instanceMethod y ∈ WALL) (h5 : Cond.initialized y.cls ∈ WALL) (h6 : w ∈ WALL) : GoodIn WALL (va_wsO own idx C owner x y (w :: WALL)) :=
  gc_1 h1 (gc_1 h2 (gc_1 h0 (gc_1 h3 (gc_1 h4 (gc_1 h5 (gc_0 h6))))))
theorem gc_su {own : String} {idx : Nat} {y : MethodName} {w : Cond} (h1 : Cond.methodLink own idx y ∈ WALL) (h2 : Cond.sameMethod y.cls y.cls y.name y.desc ∈ WALL) (h3 : Cond.superclass own y.cls ∈ WALL) (h4 : Cond.instanceMethod y ∈ WALL) (h5 : Cond.initialized y.cls ∈ WALL) (h6 : w ∈ WALL) : GoodIn WALL (va_wsSU own idx y (w :: WALL)) :=
  gc_1 h1 (gc_1 h2 (gc_1 h3 (gc_1 h4 (gc_1 h5 (gc_0 h6)))))
theorem gc_up {own C owner : String} {idx : Nat} {x y : MethodName} {w : Cond} (hg : goodWord (.selects C x y) = true) (h1 : Cond.methodLink own idx x ∈ WALL) (h2 : Cond.sameMethod x.cls owner x.name x.desc ∈ WALL) (h4 : Cond.instanceMethod y ∈ WALL) (h5 : Cond.initialized y.cls ∈ WALL) (h6 : w ∈ WALL) : GoodIn (.selects C x y :: WALL) (va_wsU own idx C owner x y (w :: WALL)) := by
  have up : ∀ {v : Cond}, v ∈ WALL → v ∈ (Cond.selects C x y :: WALL) ∧ ((v.onTables && v.keeps) = true ∨ ∃ ty, v = .arrayClass ty) := fun hv => ⟨List.mem_cons_of_mem _ hv, (gc_all _ hv).2⟩
  intro v hv
  have hv : v ∈ ([Cond.methodLink own idx x, .sameMethod x.cls owner x.name x.desc, .selects C x y, .instanceMethod y, .initialized y.cls] : List Cond) ++ (w :: WALL) := hv
  simp only [List.cons_append, List.nil_append, List.mem_cons] at hv
  rcases hv with rfl | rfl | rfl | rfl | rfl | rfl | hv
  · exact up h1
  · exact up h2
  · exact ⟨List.mem_cons_self, good_of_word hg⟩
  · exact up h4
  · exact up h5
  · exact up h6
  · exact up hv
theorem gc_upts {s : State} {args : Array Value} {w : Cond} (h : w.before args s = true) (hts : ∀ w ∈ WALL, w.before args s = true) : ∀ v ∈ w :: WALL, v.before args s = true := fun v hv => by
  rcases List.mem_cons.mp hv with rfl | hv
  · exact h
  · exact hts v hv
/-- a String that the method made, as one that its callee doesn't write -/
theorem bd_Str {D : va_G} {C : Nat → ClassId} {args : Array Value} {s U : State} {H : Heap} {ws : va_W} {B : Nat → Prop} (hts : ∀ w ∈ WALL, w.before args s = true) (hK : va_K D vwCl (tyL C) s) (hP : va_P D vwCl ws H) {sa va n : Nat} {f : Nat → Int32} {hh hz : Int32} (i j : Nat) (hi : ws[i]? = some (sa, .inr (11, [.ref va, .int 0, .int hh, .int hz]))) (hj : ws[j]? = some (va, .inl (C 1, n, .inl f))) (h1 : ¬ B sa) (h2 : ¬ B va) (hU : U.heap = H) (hW : s.WarmedH U.vm) : StrC ((List.range n).map f) sa B U U.heap := by
  rw [hU]
  refine StrC.moved hW.alike ?_
  obtain ⟨r, e1, cell, q1, q2, q3, q4⟩ := hP i _ hi
  have hr : r = (RJ0, TJ0, 4) := Option.some.inj (e1.symm.trans rfl)
  subst hr
  obtain ⟨hSl, hfc, kC, hkC, hkind⟩ := hK.1 11 _ rfl
  have fld : ∀ (k : Nat) (v : Value), k < 4 → vp_V [.ref va, .int 0, .int hh, .int hz] k = v → va_OF (TJ0 k).1 (TJ0 k).2.1 (TJ0 k).2.2.1 v sa B s H := by
    intro k v hk hv
    obtain ⟨cf, kf, fi, f, hf, hsl⟩ := hSl k hk
    exact ⟨cf, kf, fi, f, cell, hf, (u_facts hfc hkC (u_lays hts iwJ0 hk) hf).1, q1, by rw [q3]; exact fun h => by (cases h), by rw [hsl, q4 k hk, hv], h1⟩
  have hlen : ((List.range n).map f).length = n := by simp
  refine ⟨va, ⟨cell, q1, by rw [q3]; rfl, by rw [q2]; exact hfc, h1⟩, fld 1 _ (by omega) rfl, fld 0 _ (by omega) rfl, ?_⟩
  have hc : H[va]? = some (vp_cell (C 1) (n, .inl f)) := hP j _ hj
  rw [hlen]
  refine ⟨vp_cell (C 1) (n, .inl f), hc, (hK.2 1 _ rfl).1 n (fun j => .int (f j)), fun h => by (cases h), ?_, ?_, fun x hx => ?_, h2⟩
  · rw [show (vp_cell (C 1) (n, .inl f)).slots.size = n from arrV_size _ _ _]
    exact Nat.le_refl _
  · rw [show (vp_cell (C 1) (n, .inl f)).slots.size = n from arrV_size _ _ _]
  · have e : ((List.range n).map f).getD x 0 = f x := by
      rw [List.getD_eq_getElem?_getD, List.getElem?_map, List.getElem?_range hx]
      rfl
    show (arrV (C 1) n (fun j => .int (f j))).slots[x]? = some (.int (((List.range n).map f).getD x 0))
    rw [e]
    simp [arrV, hx]
theorem bd_fit {cA : ClassId} {n : Nat} {f : Nat → Int32} (h : ∀ i, i < n → fits .byte (.int (f i)) = true) : ∀ (i : Nat) (v : Value), (vp_cell cA (n, .inl f)).slots[i]? = some v → fits .byte v = true := by
  intro i v hv
  have hv : (arrV cA n (fun j => .int (f j))).slots[i]? = some v := hv
  by_cases hi : i < n
  · simp [arrV, hi] at hv
    subst hv
    exact h i hi
  · simp [arrV, hi] at hv
def lw_same : List Bool → va_W → va_W → Prop
  | true :: bs, x :: ws, y :: ws' => x = y ∧ lw_same bs ws ws'
  | false :: bs, _ :: ws, _ :: ws' => lw_same bs ws ws'
  | [], [], [] => True
  | _, _, _ => False
theorem lw_same_at : ∀ {bs : List Bool} {ws ws' : va_W}, lw_same bs ws ws' → bs.length = ws'.length ∧ ∀ i : Nat, bs[i]? = some true → ws'[i]? = ws[i]?
  | [], [], [], _ => ⟨rfl, fun i h => by simp at h⟩
  | [], _ :: _, _, h => False.elim h
  | [], [], _ :: _, h => False.elim h
  | true :: bs, x :: ws, y :: ws', h => by
    obtain ⟨h1, h2⟩ := h
    obtain ⟨a, b⟩ := lw_same_at h2
    refine ⟨by simp [a], fun i hi => ?_⟩
    cases i with
    | zero => rw [h1]; rfl
    | succ i => exact b i hi
  | false :: bs, x :: ws, y :: ws', h => by
    obtain ⟨a, b⟩ := lw_same_at (bs := bs) (ws := ws) (ws' := ws') h
    refine ⟨by simp [a], fun i hi => ?_⟩
    cases i with
    | zero => simp at hi
    | succ i => exact b i hi
  | true :: _, [], _, h => False.elim h
  | true :: _, _ :: _, [], h => False.elim h
  | false :: _, [], _, h => False.elim h
  | false :: _, _ :: _, [], h => False.elim h
def lw_kb (bs : List Bool) (is : List Nat) : Bool := (List.range bs.length).all fun i => bs.getD i true || is.contains i
theorem lw_at {is : List Nat} {ws w : va_W} (e : is.map (fun i => ws[i]?) = w.map some) (k : Nat) (q : Nat × va_E) (hq : w[k]? = some q) : ∃ i, is[k]? = some i ∧ ws[i]? = some q := by
  have h1 : (is.map (fun i => ws[i]?))[k]? = some (some q) := by rw [e, List.getElem?_map, hq]; rfl
  rw [List.getElem?_map] at h1
  cases hi : is[k]? with
  | none => rw [hi] at h1; cases h1
  | some i => rw [hi] at h1; exact ⟨i, rfl, Option.some.inj h1⟩
theorem lw_sub {D : va_G} {cl : List vw_C} {ws ws' : va_W} {H : Heap} (h : va_P D cl ws H) (is : List Nat) (e : is.map (fun i => ws[i]?) = ws'.map some) : va_P D cl ws' H := by
  intro k q hk
  obtain ⟨i, -, h2⟩ := lw_at e k q hk
  exact h i q h2
theorem lw_join {A0 : Nat → Prop} {D : va_G} {cl : List vw_C} {ws wc w1 ws' : va_W} {H H1 : Heap} (hP : va_P D cl ws H) (hD : va_D A0 ws) (isC : List Nat) (bs : List Bool) (hC : isC.map (fun i => ws[i]?) = wc.map some) (hC' : isC.map (fun i => ws'[i]?) = w1.map some) (hs : lw_same bs ws ws') (hb : lw_kb bs isC = true)
    (hk : ∀ q : Nat, q < H.size → ¬ va_A wc H.size q → H1[q]? = H[q]?) (hF : ∀ q, va_A wc H.size q → A0 q) (hP1 : va_P D cl w1 H1) (hD1 : va_D (va_A wc H.size) w1) : va_P D cl ws' H1 ∧ va_D A0 ws' := by
  obtain ⟨sl, sa⟩ := lw_same_at hs
  have cs : ∀ (k : Nat) (q : Nat × va_E), ws'[k]? = some q → (∃ t : Nat, isC[t]? = some k ∧ w1[t]? = some q) ∨ (k ∉ isC ∧ ws[k]? = some q) := by
    intro k q hq
    by_cases c : k ∈ isC
    · obtain ⟨t, ht⟩ := List.getElem?_of_mem c
      refine Or.inl ⟨t, ht, ?_⟩
      have h1 : (isC.map (fun i => ws'[i]?))[t]? = some (some q) := by rw [List.getElem?_map, ht]; exact congrArg some hq
      rw [hC', List.getElem?_map] at h1
      cases hw : w1[t]? with
      | none => rw [hw] at h1; cases h1
      | some z => rw [hw] at h1; exact congrArg some (Option.some.inj (Option.some.inj h1))
    · refine Or.inr ⟨c, ?_⟩
      have hl : k < bs.length := by rw [sl]; exact (List.getElem?_eq_some_iff.mp hq).1
      have h1 := List.all_eq_true.mp hb k (List.mem_range.mpr hl)
      have h2 : bs[k]? = some true := by
        cases hz : bs[k]? with
        | none => rw [List.getElem?_eq_none_iff] at hz; omega
        | some z =>
          cases z with
          | true => rfl
          | false =>
            simp only [List.getD_eq_getElem?_getD, hz, Option.getD_some, Bool.false_or] at h1
            exact absurd (List.contains_iff_mem.mp h1) c
      rw [sa k h2] at hq
      exact hq
  have apart : ∀ (k : Nat) (q : Nat × va_E), k ∉ isC → ws[k]? = some q → q.1 < H.size ∧ ¬ va_A wc H.size q.1 := by
    intro k q hn hq
    refine ⟨(hP k q hq).lt, fun h => ?_⟩
    rcases h with ⟨k2, e, h⟩ | h
    · obtain ⟨j, h3, h4⟩ := lw_at hC k2 (q.1, e) h
      have hij := hD.1 k j q (q.1, e) hq h4 rfl
      subst hij
      exact hn (List.mem_of_getElem? h3)
    · exact Nat.lt_irrefl _ (Nat.lt_of_lt_of_le (hP k q hq).lt h)
  refine ⟨fun k q hq => ?_, fun i j x y hi hj hxy => ?_, fun k q hq => ?_⟩
  · rcases cs k q hq with ⟨t, h1, h2⟩ | ⟨h1, h2⟩
    · exact hP1 t q h2
    · obtain ⟨g1, g2⟩ := apart k q h1 h2
      exact (hP k q h2).kept (hk q.1 g1 g2)
  · rcases cs i x hi with ⟨t, h1, h2⟩ | ⟨h1, h2⟩
    · rcases cs j y hj with ⟨t2, g1, g2⟩ | ⟨g1, g2⟩
      · have := hD1.1 t t2 x y h2 g2 hxy
        subst this
        exact Option.some.inj (h1.symm.trans g1)
      · exact absurd (hxy ▸ hD1.2 t x h2) (apart j y g1 g2).2
    · rcases cs j y hj with ⟨t2, g1, g2⟩ | ⟨g1, g2⟩
      · exact absurd (hxy ▸ hD1.2 t2 y g2) (apart i x h1 h2).2
      · exact hD.1 i j x y h2 g2 hxy
  · rcases cs k q hq with ⟨t, h1, h2⟩ | ⟨h1, h2⟩
    · exact hF q.1 (hD1.2 t q h2)
    · exact hD.2 k q h2
theorem fr_A {ws wc : va_W} {is : List Nat} (hC : is.map (fun i => ws[i]?) = wc.map some) {sz : Nat} : ∀ q, va_A wc sz q → va_A ws sz q := by
  intro q h
  rcases h with ⟨k, e, h⟩ | h
  · obtain ⟨i, -, h2⟩ := lw_at hC k (q, e) h
    exact Or.inl ⟨i, e, h2⟩
  · exact Or.inr h
theorem fr_K {D : va_G} {cl : List vw_C} {ws wc w1 ws' : va_W} {s t : State} {sz : Nat} (isC : List Nat) (bs : List Bool) (hsz : s.heap.size = sz) (hP : va_P D cl ws s.heap) (hD : va_D (fun _ => True) ws) (hC : isC.map (fun i => ws[i]?) = wc.map some) (hC' : isC.map (fun i => ws'[i]?) = w1.map some) (hs : lw_same bs ws ws') (hb : lw_kb bs isC = true)
    (hk : ∀ q : Nat, q < s.heap.size → ¬ va_A wc sz q → t.heap[q]? = s.heap[q]?) (hP1 : va_P D cl w1 t.heap) (hD1 : va_D (va_A wc sz) w1) : va_P D cl ws' t.heap ∧ va_D (va_A ws sz) ws' := by
  subst hsz
  exact lw_join hP hD.self isC bs hC hC' hs hb hk (fr_A hC) hP1 hD1
abbrev DT : Type := (Nat → Int32) × (Nat → Nat → Int32) × (Nat → Nat → Nat) × (Nat → Nat → Int32) × (Nat → Nat → Nat → Int32)
