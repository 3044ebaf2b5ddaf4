/-! THE LAW'S START: a new desk -/
def s00 : Nat → Nat := fun k => if k = 1 then 20 else if k = 2 then 12 else 0
abbrev ad0 (qx : Nat) (u : Nat → Nat) : Nat → Nat := (fun k => [qx, (u 0), (u 1), (u 9), (u 15), (u 65), (u 66), (u 67), (u 69), (u 75), (u 77), (u 87), (u 91), (u 99), (u 2), (u 8), (u 3), (u 4), (u 5), (u 6), (u 7), (u 16), (u 10), (u 11), (u 12), (u 13), (u 14), (u 70), (u 71), (u 72), (u 73), (u 74), (u 76), (u 78), (u 79), (u 80), (u 81), (u 82), (u 83), (u 84), (u 85), (u 86), (u 92), (u 93), (u 94), (u 95), (u 96), (u 97), (u 98)].getD k 0)
abbrev d00 (u : Nat → Nat) : DT := ((fun k => [(0 : Int32), (0 : Int32), (-1 : Int32), (0 : Int32), (0 : Int32), (0 : Int32), (0 : Int32), (-1 : Int32), (0 : Int32), (0 : Int32), (0 : Int32), (0 : Int32), (0 : Int32), (0 : Int32), (20 : Int32), (12 : Int32), (0 : Int32), (0 : Int32), (0 : Int32), (0 : Int32), (0 : Int32), (20 : Int32), (12 : Int32), (0 : Int32), (0 : Int32), (0 : Int32), (0 : Int32), (0 : Int32), (0 : Int32), (0 : Int32), (0 : Int32), (0 : Int32), (0 : Int32), (0 : Int32), (0 : Int32), (0 : Int32)].getD k 0, fun k => [(fun _ => 0), (fun _ => 0), (fun _ => 0), (fun _ => 0), (fun _ => 0), (fun _ => 0), (fun _ => 0), (fun _ => 0), (fun _ => 0), (fun _ => 0), (fun _ => 0), (fun _ => 0), (fun _ => 0), (fun _ => 0), (fun _ => 0), (fun _ => 0), (fun _ => 0), (fun _ => 0), (fun _ => 0), (fun _ => 0), (fun _ => 0), (fun _ => 0), (fun _ => 0), (fun _ => 0), (fun _ => 0), (fun _ => 0), (fun _ => 0), (fun _ => 0), (fun _ => 0), (fun _ => 0), (fun _ => 0), (fun _ => 0), (fun _ => 0)].getD k (fun _ => 0), (fun k j => u (17 + 6 * k + j)), (fun _ j => famI 0 (20 : Int32) (12 : Int32) 0 0 0 j), (fun _ _ _ => 0)) : DT)
set_option maxRecDepth 100000 in
theorem inv0 (u : Nat → Nat) : IV s00 0 (fun _ => 0) 0 (-1) (d00 u) := by
  refine ⟨⟨by decide, by decide, by decide, by decide, by decide, by decide, fun k hk => absurd hk (Nat.not_lt_zero _)⟩, [], Nat.zero_le _, ⟨rfl, rfl, rfl, rfl, rfl, rfl, fun k hk => absurd hk (Nat.not_lt_zero _)⟩, ⟨rfl, fun k t h => by simp at h⟩, ⟨rfl, ⟨by omega, fun p => (by show (-128 : Int) ≤ 0 ∧ (0 : Int) ≤ 127; omega), fun p hp => absurd hp (Nat.not_lt_zero _)⟩, fun i hi => rfl⟩, ⟨rfl, rfl⟩, ⟨⟨rfl, rfl, rfl, rfl, rfl⟩, Or.inl rfl⟩, Or.inl rfl⟩
set_option maxHeartbeats 4000000 in
set_option maxRecDepth 100000 in
theorem whole_start {p : Program} {e : Env} {s : State} {m : MethodId} {below : List Frame} {meth : Method} {c : Code} (l : Launch) (hflags : l.flags = flags0) {b L : Nat} {xs : Nat → Int32} (hL : L ≤ 260) (C0 : lw_At p s m meth c b L xs) : W p l e room_1 s m #[Value.ref b] below meth c s.heap [] 0 0 (lw_Z below #[Value.ref b] s) (entryFrame m ([Value.ref b] : List Value).toArray 3) := by
  obtain ⟨hx, hb, hr, hml, hown, ht, hX, hbl, hlocks, hgv⟩ := C0
  have hst : l.stackTraces = false := by
    unfold Launch.stackTraces
    rw [hflags]
    decide
  have hown : s.vm.findClass RL = some m.cls := hown
  have hb : c.code = cL_law := hb
  have hts : ∀ w ∈ WALL, w.before #[Value.ref b] s = true := fun w hw => ht w (List.mem_filter.mp hw).1
  have hT := st_tx hgv ht
  have hN := st_ni ht
  obtain ⟨D, C, hK⟩ := st_K ht
  have hA : ∀ q : Nat, s.heap.size ≤ q → lw_sA s q := fun _ h => h
  have hbA : ¬ lw_sA s b := Nat.not_le.mpr hbl
  have hs : ScrC L xs b (lw_sA s) s s.heap := ⟨hX, hbl, hbA⟩
  have hS : va_S (lw_sA s) s.heap s.heap [] := va_S.rf
  have hP : va_P D vwCl [] s.heap := fun k q h => by simp at h
  have hD : va_D (lw_sA s) [] := ⟨fun i j p q h => by simp at h, fun k q h => by simp at h⟩
  have hl := lv_entry ([.ref b]) (n := 3) (Nat.le_of_ble_eq_true rfl)
  rw [lg_entry_eq]
  generalize (lg_sl ([.ref b]) ++ List.replicate (3 - (lg_sl ([.ref b])).length) Slot.unset).toArray = ls at hl ⊢
  have hl : lv_has ls 3 [(0, .ref b)] := hl
  refine va_new (ci := 10) (fs := [.null, .int 0, .null, .int 0, .int 0, .null, .null, .null, .null, .null, .null, .null, .null, .null, .null, .null, .int 0, .int 0, .int 0]) (C := RX10) (T := TX10) (N := 19) hx hb hts iwX10 tyX10 tyX10_ok hown (hts (.classLink RL 25 RX10) wx_64_0) (hts (.instantiable RX10 19) wx_65_0) (hts (.initialized RX10) wd_35) hK hP hD hS hA rfl (fun j hj => by rcases (show j = 0 ∨ j = 1 ∨ j = 2 ∨ j = 3 ∨ j = 4 ∨ j = 5 ∨ j = 6 ∨ j = 7 ∨ j = 8 ∨ j = 9 ∨ j = 10 ∨ j = 11 ∨ j = 12 ∨ j = 13 ∨ j = 14 ∨ j = 15 ∨ j = 16 ∨ j = 17 ∨ j = 18 by omega) with rfl | rfl | rfl | rfl | rfl | rfl | rfl | rfl | rfl | rfl | rfl | rfl | rfl | rfl | rfl | rfl | rfl | rfl | rfl <;> rfl) (Nat.le_of_ble_eq_true rfl) (Nat.le_of_ble_eq_true rfl) dL_law_0 (fun qx H hP hD hS => ?_)
  have hP : va_P D vwCl [(qx, .inr (10, [.null, .int 0, .null, .int 0, .int 0, .null, .null, .null, .null, .null, .null, .null, .null, .null, .null, .null, .int 0, .int 0, .int 0]))] H := hP
  have hD : va_D (lw_sA s) [(qx, .inr (10, [.null, .int 0, .null, .int 0, .int 0, .null, .null, .null, .null, .null, .null, .null, .null, .null, .null, .null, .int 0, .int 0, .int 0]))] := hD
  refine lv_dup hx hb dL_law_3 rfl ?_
  have hPc := hP
  have hDc := hD
  have hFc := va_free (wc := [(qx, .inr (10, [.null, .int 0, .null, .int 0, .int 0, .null, .null, .null, .null, .null, .null, .null, .null, .null, .null, .null, .int 0, .int 0, .int 0]))]) hD hS hA [0] rfl
  refine va_callv (va_runI (As := []) (rest := [.ref qx]) ⟨hx, hb, hml, hown, hts⟩ (met_X10_init l D C qx H.size) (cwI 0 hts gc_X10_init rfl rfl rfl (hts (.initialized RX10) wd_35) (hts (.methodLink RL 181 yX10_init) wx_66_0) (hts (.instanceMethod yX10_init) wx_67_0) rfl (by decide +kernel) ⟨Nat.le_of_ble_eq_true rfl, Nat.le_of_ble_eq_true rfl⟩) ⟨fun a U g mk q => by obtain ⟨q0, q1, qP, qK, qD, qN⟩ := q; exact ⟨q0, q1, qP, va_K.moved (u := U) (U := U.calling g mk a) (Vm.Alike.refl U.vm) qK, qD, qN.mv (U := U.calling g mk a) (State.WarmedH.refl U)⟩, fun U hU hW => ⟨rfl, by rw [hU], by rw [hU]; exact hPc, va_K.moved hW.alike hK, hDc.weaken (fun _ _ _ _ => trivial), hN.mv hW⟩⟩ rfl rfl hl.1 rfl (lv_room (Nat.le_of_ble_eq_true rfl)) dL_law_4 ⟨Nat.le_of_ble_eq_true rfl, Nat.le_of_ble_eq_true rfl⟩) hS (fun q _ h => hFc q h) hFc (fun u t H1 locs ht_ hvm _ hB hz1 hk1 hS => ?_)
  obtain ⟨hP1, -, hD1⟩ := hB
  rw [ht_] at hP1
  obtain ⟨hP, hD⟩ := va_join (wr := []) (w1 := (wi_X10_init C qx u)) hP hD [0] [] rfl rfl (by decide) (by decide) hk1 hFc hP1 hD1
  generalize H1 = H at hP hS ⊢
  have hP : va_P D vwCl (wi_X10_init C qx u) H := hP
  have hD : va_D (lw_sA s) (wi_X10_init C qx u) := hD
  refine lv_astore_n (lv' := [(1, .ref qx), (0, .ref b)]) hx hb dL_law_7 rfl hl (by decide) rfl (fun ls hl => ?_)
  have hP2 := fam_arr hP 17 rfl (g := (fun i => some ((fun k j => u (17 + 6 * k + j)) i 0))) (fun i hi => by rcases (show i = 0 ∨ i = 1 ∨ i = 2 ∨ i = 3 ∨ i = 4 ∨ i = 5 ∨ i = 6 ∨ i = 7 by omega) with rfl | rfl | rfl | rfl | rfl | rfl | rfl | rfl <;> rfl)
  have hD2 := fam_D hD (ws' := _) (show (List.set (wi_X10_init C qx u) 17 ((u 16), .inl (C 3, 8, .inr (.inr (.inr (.inr (fun i => some ((fun k j => u (17 + 6 * k + j)) i 0)))))))).map Prod.fst = _ from rfl)
  have hP3 := hP2.sub (ws' := ([] ++ wK C (ad0 qx u) (d00 u))) [0, 1, 2, 9, 3, 4, 5, 6, 7, 8, 16, 10, 11, 12, 13, 14, 15, 70, 71, 72, 73, 74, 75, 76, 77, 78, 86, 79, 80, 81, 82, 83, 84, 85, 92, 96, 93, 97, 98, 99, 95, 94, 17, 18, 19, 20, 21, 22, 23, 24, 25, 26, 27, 28, 29, 30, 31, 32, 33, 34, 35, 36, 37, 38, 39, 40, 41, 42, 43, 44, 45, 46, 47, 48, 49, 50, 51, 52, 53, 54, 55, 56, 57, 58, 59, 60, 61, 62, 63, 64, 65] rfl
  have hD3 := hD2.sub (ws' := ([] ++ wK C (ad0 qx u) (d00 u))) [0, 1, 2, 9, 3, 4, 5, 6, 7, 8, 16, 10, 11, 12, 13, 14, 15, 70, 71, 72, 73, 74, 75, 76, 77, 78, 86, 79, 80, 81, 82, 83, 84, 85, 92, 96, 93, 97, 98, 99, 95, 94, 17, 18, 19, 20, 21, 22, 23, 24, 25, 26, 27, 28, 29, 30, 31, 32, 33, 34, 35, 36, 37, 38, 39, 40, 41, 42, 43, 44, 45, 46, 47, 48, 49, 50, 51, 52, 53, 54, 55, 56, 57, 58, 59, 60, 61, 62, 63, 64, 65] (by decide +kernel) rfl
  exact law_rest hst hL hx hb hr hml hown hts hs hlocks hK hT (ad := ad0 qx u) (d := d00 u) (inv0 u) hl hP3 hD3 hS
