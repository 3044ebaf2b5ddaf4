/-! OUTPUT: the bytes that class and reference put, as a list -/
def bv (v : Int32) : Int32 := vp_nar .byte v.toInt8.toInt32
/-- a row of bytes and its length hold the list -/
def outP (l : List Int32) (len : Int32) (by_ : Nat → Int32) : Prop := len = iI (l.length : Nat) ∧ ∀ k, k < l.length → by_ k = l.getD k 0
theorem gD_last (l : List Int32) (v : Int32) : (l ++ [v]).getD l.length 0 = v := by simp [List.getD_eq_getElem?_getD]
theorem gD_old {l : List Int32} {v : Int32} {k : Nat} (hk : k < l.length) : (l ++ [v]).getD k 0 = l.getD k 0 := by
  rw [List.getD_eq_getElem?_getD, List.getD_eq_getElem?_getD, List.getElem?_append_left hk]
theorem outP_put {l : List Int32} {len : Int32} {by_ : Nat → Int32} (h : outP l len by_) (v : Int32) : outP (l ++ [v]) (len + 1) (upd by_ l.length v) := by
  refine ⟨by rw [h.1, iI_succ, List.length_append]; rfl, fun k hk => ?_⟩
  rw [List.length_append] at hk
  by_cases c : k = l.length
  · rw [c, pk_us, gD_last]
  · have hk2 : k < l.length := by simp only [List.length_cons, List.length_nil] at hk; omega
    rw [pk_un c, gD_old hk2]
    exact h.2 k hk2
theorem outP_0 (by_ : Nat → Int32) : outP [] 0 by_ := ⟨iI_lit 0, fun k hk => absurd hk (by simp)⟩
theorem sp_put {l : List Int32} {len v : Int32} {by_ : Nat → Int32} (h : outP l len by_) (hl : l.length < 15457) {Q : Int32 → (Nat → Int32) → Prop} (hQ : ∀ len2 by2, outP (l ++ [bv v]) len2 by2 → Q len2 by2) : wp_X4_put v len by_ Q := by
  unfold wp_X4_put
  have := outP_put h (bv v)
  obtain ⟨h1, h2⟩ := h
  subst h1
  rw [iI_lit 15457, iI_le (by omega) (by omega) (by omega) (by omega), iI_clN (by omega)]
  exact ⟨fun c => absurd c (by omega), fun _ => ⟨in_lit (by omega) (by omega), hQ _ _ this⟩⟩
theorem sp_write {l : List Int32} {len v : Int32} {by_ : Nat → Int32} (h : outP l len by_) (hl : l.length < 15457) {Q : Int32 → (Nat → Int32) → Prop} (hQ : ∀ len2 by2, outP (l ++ [bv v]) len2 by2 → Q len2 by2) : wp_X11_write v len by_ Q := by
  unfold wp_X11_write
  have := outP_put h (bv v)
  obtain ⟨h1, h2⟩ := h
  subst h1
  rw [iI_clN (by omega)]
  exact ⟨in_lit (by omega) (by omega), hQ _ _ this⟩
theorem iI_divN {a b : Nat} (ha : a < 2147483648) (hb : b < 2147483648) (h0 : 0 < b) : iI a / iI b = iI ((a / b : Nat) : Int) := by
  have hq : a / b ≤ a := Nat.div_le_self a b
  have q0 : (0 : Int) ≤ ((a / b : Nat) : Int) := Int.natCast_nonneg _
  have hq2 : ((a / b : Nat) : Int) ≤ (a : Int) := Int.ofNat_le.mpr hq
  have hne : iI (b : Nat) ≠ -1 := fun z => by
    have := congrArg Int32.toInt z
    rw [iI_toInt (by omega) (by omega)] at this
    have e : (-1 : Int32).toInt = -1 := by decide
    rw [e] at this
    omega
  rw [← Int32.toInt_inj, Int32.toInt_div_of_ne_right _ _ hne, iI_toInt (by omega) (by omega), iI_toInt (by omega) (by omega), iI_toInt (by omega) (by omega), Int.tdiv_eq_ediv_of_nonneg (by omega)]
  rfl
/-- one digit's byte -/
def dgt (n u : Nat) : Int32 := bv (48 + ((iI n / iI u) - (iI n / iI u) / 10 * 10))
def dg (n : Nat) : List Int32 := if n < 10 then [dgt n 1] else if n < 100 then [dgt n 10, dgt n 1] else if n < 1000 then [dgt n 100, dgt n 10, dgt n 1] else [dgt n 1000, dgt n 100, dgt n 10, dgt n 1]
theorem dg_le (n : Nat) : (dg n).length ≤ 4 := by
  unfold dg
  split
  · simp
  · split
    · simp
    · split <;> simp
/-- the greatest unit -/
def un (n : Nat) : Nat := if n < 10 then 1 else if n < 100 then 10 else if n < 1000 then 100 else 1000
theorem un_t {n u : Nat} (hn : n < 10000) (hu : 0 < u) (hu2 : u < 2147483648) : ((iI (n : Nat) / iI (u : Nat)) < 10) ↔ n / u < 10 := by
  have hq : n / u ≤ n := Nat.div_le_self n u
  have q0 : (0 : Int) ≤ ((n / u : Nat) : Int) := Int.natCast_nonneg _
  have hq2 : ((n / u : Nat) : Int) ≤ (n : Int) := Int.ofNat_le.mpr hq
  rw [iI_divN (by omega) hu2 hu, iI_lit 10, iI_lt (by omega) (by omega) (by omega) (by omega)]
  omega
theorem nz (u : Nat) (hu : 0 < u) (hu2 : u < 2147483648) : ¬ iI (u : Nat) = 0 := by
  rw [iI_lit 0, iI_eq (by omega) (by omega) (by omega) (by omega)]
  omega
theorem d1 : iI ((1 : Nat) : Int) / 10 = iI ((0 : Nat) : Int) := by decide
theorem d10 : iI ((10 : Nat) : Int) / 10 = iI ((1 : Nat) : Int) := by decide
theorem d100 : iI ((100 : Nat) : Int) / 10 = iI ((10 : Nat) : Int) := by decide
theorem d1000 : iI ((1000 : Nat) : Int) / 10 = iI ((100 : Nat) : Int) := by decide
theorem pos_lit {u : Nat} (hu : 0 < u) (hu2 : u < 2147483648) : ¬ iI (u : Nat) ≤ 0 := by
  rw [iI_lit 0, iI_le (by omega) (by omega) (by omega) (by omega)]
  omega
/-- a walk over the units that puts digits: the class's -/
theorem sp_dC0 {n : Nat} {Q : Int32 → (Nat → Int32) → Prop} {m : Nat} {len : Int32} {by_ : Nat → Int32} (hQ : Q len by_) : wp_X4_putNumber_L31 (iI n) Q (m + 1) (iI ((0 : Nat) : Int)) len by_ := by
  unfold wp_X4_putNumber_L31
  exact ⟨fun _ => hQ, fun z => absurd (by decide) z⟩
theorem sp_dC {n u v : Nat} (hu : 0 < u) (hu2 : u < 2147483648) (hv : iI (u : Nat) / 10 = iI (v : Nat)) {Q : Int32 → (Nat → Int32) → Prop} {m : Nat} {l : List Int32} {len : Int32} {by_ : Nat → Int32} (h : outP l len by_) (hl : l.length < 15457) (nx : ∀ len2 by2, outP (l ++ [dgt n u]) len2 by2 → wp_X4_putNumber_L31 (iI n) Q m (iI (v : Nat)) len2 by2) : wp_X4_putNumber_L31 (iI n) Q (m + 1) (iI (u : Nat)) len by_ := by
  unfold wp_X4_putNumber_L31
  refine ⟨fun z => absurd z (pos_lit hu hu2), fun _ => ⟨nz u hu hu2, sp_put h hl fun len2 by2 h2 w hw => ?_⟩⟩
  subst hw
  rw [hv]
  exact nx len2 by2 h2
theorem sp_dR0 {n : Nat} {Q : Int32 → (Nat → Int32) → Prop} {m : Nat} {len : Int32} {by_ : Nat → Int32} (hQ : Q len by_) : wp_X11_writeNumber_L20 (iI n) Q (m + 1) (iI ((0 : Nat) : Int)) len by_ := by
  unfold wp_X11_writeNumber_L20
  exact ⟨fun _ => hQ, fun z => absurd (by decide) z⟩
theorem sp_dR {n u v : Nat} (hu : 0 < u) (hu2 : u < 2147483648) (hv : iI (u : Nat) / 10 = iI (v : Nat)) {Q : Int32 → (Nat → Int32) → Prop} {m : Nat} {l : List Int32} {len : Int32} {by_ : Nat → Int32} (h : outP l len by_) (hl : l.length < 15457) (nx : ∀ len2 by2, outP (l ++ [dgt n u]) len2 by2 → wp_X11_writeNumber_L20 (iI n) Q m (iI (v : Nat)) len2 by2) : wp_X11_writeNumber_L20 (iI n) Q (m + 1) (iI (u : Nat)) len by_ := by
  unfold wp_X11_writeNumber_L20
  refine ⟨fun z => absurd z (pos_lit hu hu2), fun _ => ⟨nz u hu hu2, sp_write h hl fun len2 by2 h2 w hw => ?_⟩⟩
  subst hw
  rw [hv]
  exact nx len2 by2 h2
theorem l1 (l : List Int32) (a : Int32) : (l ++ [a]).length = l.length + 1 := by rw [List.length_append]; rfl
theorem l2 (l : List Int32) (a b : Int32) : (l ++ [a]) ++ [b] = l ++ [a, b] := by rw [List.append_assoc]; rfl
theorem l3 (l : List Int32) (a b c : Int32) : (l ++ [a, b]) ++ [c] = l ++ [a, b, c] := by rw [List.append_assoc]; rfl
theorem l4 (l : List Int32) (a b c d : Int32) : (l ++ [a, b, c]) ++ [d] = l ++ [a, b, c, d] := by rw [List.append_assoc]; rfl
theorem sp_digC {n : Nat} {Q : Int32 → (Nat → Int32) → Prop} {l : List Int32} {len : Int32} {by_ : Nat → Int32} (h : outP l len by_) (hl : l.length + 4 ≤ 15457) (hQ : ∀ len2 by2, outP (l ++ dg n) len2 by2 → Q len2 by2) : wp_X4_putNumber_L31 (iI n) Q 5 (iI (un n : Nat)) len by_ := by
  have L1 := fun a => l1 l a
  have L2 := fun a b => l1 (l ++ [a]) b
  have L3 := fun a b c => l1 (l ++ [a] ++ [b]) c
  unfold dg at hQ
  unfold un
  by_cases c1 : n < 10
  · rw [if_pos c1]; rw [if_pos c1] at hQ
    refine sp_dC (by omega) (by omega) d1 h (by omega) fun a b h1 => sp_dC0 (hQ a b h1)
  rw [if_neg c1]; rw [if_neg c1] at hQ
  by_cases c2 : n < 100
  · rw [if_pos c2]; rw [if_pos c2] at hQ
    refine sp_dC (by omega) (by omega) d10 h (by omega) fun a b h1 => sp_dC (by omega) (by omega) d1 h1 (by rw [L1]; omega) fun a b h2 => sp_dC0 (hQ a b ?_)
    rw [l2] at h2; exact h2
  rw [if_neg c2]; rw [if_neg c2] at hQ
  by_cases c3 : n < 1000
  · rw [if_pos c3]; rw [if_pos c3] at hQ
    refine sp_dC (by omega) (by omega) d100 h (by omega) fun a b h1 => sp_dC (by omega) (by omega) d10 h1 (by rw [L1]; omega) fun a b h2 => sp_dC (by omega) (by omega) d1 h2 (by rw [L2, L1]; omega) fun a b h3 => sp_dC0 (hQ a b ?_)
    simpa only [List.append_assoc, List.cons_append, List.nil_append] using h3
  rw [if_neg c3]; rw [if_neg c3] at hQ
  refine sp_dC (by omega) (by omega) d1000 h (by omega) fun a b h1 => sp_dC (by omega) (by omega) d100 h1 (by rw [L1]; omega) fun a b h2 => sp_dC (by omega) (by omega) d10 h2 (by rw [L2, L1]; omega) fun a b h3 => sp_dC (by omega) (by omega) d1 h3 (by rw [L3, L2, L1]; omega) fun a b h4 => sp_dC0 (hQ a b ?_)
  simpa only [List.append_assoc, List.cons_append, List.nil_append] using h4
theorem sp_digR {n : Nat} {Q : Int32 → (Nat → Int32) → Prop} {l : List Int32} {len : Int32} {by_ : Nat → Int32} (h : outP l len by_) (hl : l.length + 4 ≤ 15457) (hQ : ∀ len2 by2, outP (l ++ dg n) len2 by2 → Q len2 by2) : wp_X11_writeNumber_L20 (iI n) Q 5 (iI (un n : Nat)) len by_ := by
  have L1 := fun a => l1 l a
  have L2 := fun a b => l1 (l ++ [a]) b
  have L3 := fun a b c => l1 (l ++ [a] ++ [b]) c
  unfold dg at hQ
  unfold un
  by_cases c1 : n < 10
  · rw [if_pos c1]; rw [if_pos c1] at hQ
    refine sp_dR (by omega) (by omega) d1 h (by omega) fun a b h1 => sp_dR0 (hQ a b h1)
  rw [if_neg c1]; rw [if_neg c1] at hQ
  by_cases c2 : n < 100
  · rw [if_pos c2]; rw [if_pos c2] at hQ
    refine sp_dR (by omega) (by omega) d10 h (by omega) fun a b h1 => sp_dR (by omega) (by omega) d1 h1 (by rw [L1]; omega) fun a b h2 => sp_dR0 (hQ a b ?_)
    rw [l2] at h2; exact h2
  rw [if_neg c2]; rw [if_neg c2] at hQ
  by_cases c3 : n < 1000
  · rw [if_pos c3]; rw [if_pos c3] at hQ
    refine sp_dR (by omega) (by omega) d100 h (by omega) fun a b h1 => sp_dR (by omega) (by omega) d10 h1 (by rw [L1]; omega) fun a b h2 => sp_dR (by omega) (by omega) d1 h2 (by rw [L2, L1]; omega) fun a b h3 => sp_dR0 (hQ a b ?_)
    simpa only [List.append_assoc, List.cons_append, List.nil_append] using h3
  rw [if_neg c3]; rw [if_neg c3] at hQ
  refine sp_dR (by omega) (by omega) d1000 h (by omega) fun a b h1 => sp_dR (by omega) (by omega) d100 h1 (by rw [L1]; omega) fun a b h2 => sp_dR (by omega) (by omega) d10 h2 (by rw [L2, L1]; omega) fun a b h3 => sp_dR (by omega) (by omega) d1 h3 (by rw [L3, L2, L1]; omega) fun a b h4 => sp_dR0 (hQ a b ?_)
  simpa only [List.append_assoc, List.cons_append, List.nil_append] using h4
theorem sp_putNumber {n : Nat} (hn : n < 10000) {Q : Int32 → (Nat → Int32) → Prop} {l : List Int32} {len : Int32} {by_ : Nat → Int32} (h : outP l len by_) (hl : l.length + 4 ≤ 15457) (hQ : ∀ len2 by2, outP (l ++ dg n) len2 by2 → Q len2 by2) : wp_X4_putNumber (iI (n : Nat)) len by_ Q := by
  have fin := sp_digC h hl hQ
  have key : ∀ (d i u : Nat), 0 < u → u * 10 ^ d = 10000 → i + d = 4 → 1 ≤ d → u ≤ n ∨ u = 1 → wp_X4_putNumber_L4 (iI (n : Nat)) len by_ (fun x2 => ∃ n31, wp_X4_putNumber_L31 (iI (n : Nat)) Q n31 x2 len by_) Q (d + 1) (iI (u : Nat)) (iI (i : Nat)) := by
    intro d
    induction d with
    | zero => intro i u _ _ _ z; omega
    | succ d ih =>
      intro i u hu hp hi _ hle
      have hu2 : u ≤ 10000 := by rw [← hp]; exact Nat.le_mul_of_pos_right u (Nat.pow_pos (by omega))
      unfold wp_X4_putNumber_L4
      rw [iI_lit 9, iI_le (by omega) (by omega) (by omega) (by omega), un_t hn hu (by omega)]
      refine ⟨fun z => absurd z (by omega), fun _ => ⟨nz u hu (by omega), fun c => ⟨5, ?_⟩, fun c w hw => ?_⟩⟩
      · have hd : d = 0 ∨ d = 1 ∨ d = 2 ∨ d = 3 := by omega
        have hlt : n < 10 * u := (Nat.div_lt_iff_lt_mul hu).mp c
        have e : un n = u := by
          unfold un
          rcases hd with rfl | rfl | rfl | rfl <;> simp only [Nat.pow_zero, Nat.pow_succ, Nat.zero_add] at hp <;> (repeat' split) <;> omega
        rw [← e]
        exact fin
      · subst hw
        have hge : 10 * u ≤ n := Nat.not_lt.mp (fun z => c ((Nat.div_lt_iff_lt_mul hu).mpr z))
        have hd1 : 1 ≤ d := by
          rcases Nat.eq_zero_or_pos d with z | z
          · subst z; simp only [Nat.zero_add, Nat.pow_one] at hp; omega
          · exact z
        rw [iI_lit 10, iI_mul, iI_succ]
        have := ih (i + 1) (u * 10) (by omega) (by rw [Nat.mul_assoc, Nat.mul_comm 10, ← Nat.pow_succ]; exact hp) (by omega) hd1 (Or.inl (by omega))
        exact this
  unfold wp_X4_putNumber
  refine ⟨5, ?_⟩
  have := key 4 0 1 (by omega) (by decide) rfl (by omega) (Or.inr rfl)
  rw [iI_lit 1, iI_lit 0]
  exact this
theorem sp_writeNumber {n : Nat} (hn : n < 10000) {Q : Int32 → (Nat → Int32) → Prop} {l : List Int32} {len : Int32} {by_ : Nat → Int32} (h : outP l len by_) (hl : l.length + 4 ≤ 15457) (hQ : ∀ len2 by2, outP (l ++ dg n) len2 by2 → Q len2 by2) : wp_X11_writeNumber (iI (n : Nat)) len by_ Q := by
  have fin := sp_digR h hl hQ
  have key : ∀ (d u : Nat), 0 < u → u * 10 ^ d = 10000 → d ≤ 4 → 1 ≤ d → u ≤ n ∨ u = 1 → wp_X11_writeNumber_L2 (iI (n : Nat)) len by_ (fun x2 => ∃ n31, wp_X11_writeNumber_L20 (iI (n : Nat)) Q n31 x2 len by_) Q (d + 1) (iI (u : Nat)) := by
    intro d
    induction d with
    | zero => intro u _ _ _ z; omega
    | succ d ih =>
      intro u hu hp hi _ hle
      have hu2 : u ≤ 10000 := by rw [← hp]; exact Nat.le_mul_of_pos_right u (Nat.pow_pos (by omega))
      unfold wp_X11_writeNumber_L2
      rw [un_t hn hu (by omega)]
      refine ⟨nz u hu (by omega), fun c => ⟨5, ?_⟩, fun c w hw => ?_⟩
      · have hd : d = 0 ∨ d = 1 ∨ d = 2 ∨ d = 3 := by omega
        have hlt : n < 10 * u := (Nat.div_lt_iff_lt_mul hu).mp c
        have e : un n = u := by
          unfold un
          rcases hd with rfl | rfl | rfl | rfl <;> simp only [Nat.pow_zero, Nat.pow_succ, Nat.zero_add] at hp <;> (repeat' split) <;> omega
        rw [← e]
        exact fin
      · subst hw
        have hge : 10 * u ≤ n := Nat.not_lt.mp (fun z => c ((Nat.div_lt_iff_lt_mul hu).mpr z))
        have hd1 : 1 ≤ d := by
          rcases Nat.eq_zero_or_pos d with z | z
          · subst z; simp only [Nat.zero_add, Nat.pow_one] at hp; omega
          · exact z
        rw [iI_lit 10, iI_mul]
        have := ih (u * 10) (by omega) (by rw [Nat.mul_assoc, Nat.mul_comm 10, ← Nat.pow_succ]; exact hp) (by omega) hd1 (Or.inl (by omega))
        exact this
  unfold wp_X11_writeNumber
  refine ⟨5, ?_⟩
  have := key 4 1 (by omega) (by decide) (by omega) (by omega) (Or.inr rfl)
  rw [iI_lit 1]
  exact this
/-- the bytes of a frontier's first n points -/
def fw (h : Nat → Int) : Nat → List Int32
  | 0 => []
  | n + 1 => fw h n ++ (if n = 0 then [] else [bv 32]) ++ dg (PG h n) ++ [bv 44] ++ dg (PJ h n).toNat ++ [bv (if MK h n = 2 then 33 else if MK h n = 1 then 43 else 46)]
theorem fw_le (h : Nat → Int) : ∀ n, (fw h n).length ≤ 11 * n
  | 0 => Nat.le_refl 0
  | n + 1 => by
    have h1 := fw_le h n
    have h2 := dg_le (PG h n)
    have h3 := dg_le (PJ h n).toNat
    have h4 : (if n = 0 then ([] : List Int32) else [bv 32]).length ≤ 1 := by split <;> simp
    simp only [fw, List.length_append, List.length_cons, List.length_nil]
    omega
/-- the bytes of the choices of the first n points -/
def bw (c : Nat) : Nat → List Int32
  | 0 => []
  | k + 1 => bw c k ++ [bv (if c.testBit k then 49 else 48)]
def chw (s : Nat → Nat) : Nat → List Int32
  | 0 => []
  | n + 1 => chw s n ++ bw (CHo s n) (s 0) ++ [bv 10]
theorem bw_le (c : Nat) : ∀ k, (bw c k).length = k
  | 0 => rfl
  | k + 1 => by simp only [bw, List.length_append, List.length_cons, List.length_nil]; rw [bw_le c k]
theorem chw_le (s : Nat → Nat) : ∀ n, (chw s n).length = (s 0 + 1) * n
  | 0 => by simp [chw]
  | n + 1 => by
    simp only [chw, List.length_append, List.length_cons, List.length_nil]
    rw [bw_le, chw_le s n, Nat.mul_succ]
    omega
/-- a point's own bytes -/
def pw (h : Nat → Int) (n : Nat) : List Int32 := dg (PG h n) ++ [bv 44] ++ dg (PJ h n).toNat ++ [bv (if MK h n = 2 then 33 else if MK h n = 1 then 43 else 46)]
theorem fw_s (h : Nat → Int) (n : Nat) : fw h (n + 1) = (fw h n ++ (if n = 0 then [] else [bv 32])) ++ pw h n := by
  simp only [fw, pw, List.append_assoc]
theorem pw_e (l : List Int32) (h : Nat → Int) (n : Nat) : l ++ dg (PG h n) ++ [bv 44] ++ dg (PJ h n).toNat ++ [bv (if MK h n = 2 then 33 else if MK h n = 1 then 43 else 46)] = l ++ pw h n := by
  simp only [pw, List.append_assoc]
theorem sl_wfB {s : Nat → Nat} (hW : WF s) {t_now_items : Int32} {t_now_capacity : Int32} {t_now_limit : Int32} {t_now_mustSet : Int32} {t_now_neverSet : Int32} {t_now_weight : Nat → Int32} {t_now_gain : Nat → Int32} {t_now_joy : Nat → Int32} {t_now_bars : Nat → Int32} {t_now_needs : Nat → Int32} {t_frontierFresh : Int32} {t_choices_sets : Int32} {t_choices_limit : Int32} {t_choices_mustSet : Int32} {t_choices_neverSet : Int32} {t_choices_weight : Nat → Int32} {t_choices_gain : Nat → Int32} {t_choices_joy : Nat → Int32} {t_choices_barred : Nat → Int32} {t_choices_needed : Nat → Int32} {t_stairs_allowedCount : Int32} {t_stairs_joyAt : Nat → Int32} {t_frontier_size : Int32} {t_frontier_vertexCount : Int32} {t_frontier_allowedCount : Int32} {t_frontier_areaBelow : Int32} {t_frontier_pointAt : Nat → Int32} {t_frontier_gain : Nat → Int32} {t_frontier_joy : Nat → Int32} {t_frontier_choice : Nat → Int32} {t_frontier_times : Nat → Int32} {t_frontier_light : Nat → Int32} {t_frontier_mark : Nat → Int32} {t_frontier_vertexPoint : Nat → Int32} {k14 : Int32 → Int32 → (Nat → Int32) → Prop} {Q : Int32 → Int32 → Int32 → Int32 → Int32 → Int32 → (Nat → Int32) → (Nat → Int32) → (Nat → Int32) → (Nat → Int32) → (Nat → Int32) → Int32 → (Nat → Int32) → Int32 → Int32 → Int32 → Int32 → (Nat → Int32) → (Nat → Int32) → (Nat → Int32) → (Nat → Int32) → (Nat → Int32) → (Nat → Int32) → (Nat → Int32) → (Nat → Int32) → Int32 → (Nat → Int32) → Prop} {x1 : Int32} {t_output_length : Int32} {t_output_bytes : Nat → Int32} (hF : frP s t_frontier_size t_frontier_vertexCount t_frontier_allowedCount t_frontier_areaBelow t_frontier_pointAt t_frontier_gain t_frontier_joy t_frontier_choice t_frontier_times t_frontier_light t_frontier_mark t_frontier_vertexPoint) {n : Nat} (hn : n < PN (HH s)) (hx : x1 = iI (n : Nat)) {l : List Int32} (ho : outP l t_output_length t_output_bytes) (hl : l.length ≤ 15000) (hk : ∀ len by_, outP (l ++ pw (HH s) n) len by_ → k14 (iI ((n + 1 : Nat) : Int)) len by_) : wp_X10_writeFrontier_b38 t_now_items t_now_capacity t_now_limit t_now_mustSet t_now_neverSet t_now_weight t_now_gain t_now_joy t_now_bars t_now_needs t_frontierFresh t_choices_sets t_choices_limit t_choices_mustSet t_choices_neverSet t_choices_weight t_choices_gain t_choices_joy t_choices_barred t_choices_needed t_stairs_allowedCount t_stairs_joyAt t_frontier_size t_frontier_vertexCount t_frontier_allowedCount t_frontier_areaBelow t_frontier_pointAt t_frontier_gain t_frontier_joy t_frontier_choice t_frontier_times t_frontier_light t_frontier_mark t_frontier_vertexPoint k14 Q x1 t_output_length t_output_bytes := by
  have hN := PN_le (HH s)
  have hs := HH_stP hW
  obtain ⟨f1, f2, f3, f4, f5, f6, f7, f8⟩ := id hF
  have bj := PJ_rng hs hn
  have bg := PG_rng hn
  have bm : MK (HH s) n ≤ 2 := MKs_le (HH s) (VC (HH s)) n
  have hi : vp_in (iI (n : Nat)) 1189 := in_lit (by omega) (by omega)
  have ej : PJ (HH s) n = (((PJ (HH s) n).toNat : Nat) : Int) := by omega
  have g1 := dg_le (PG (HH s) n)
  have g2 := dg_le (PJ (HH s) n).toNat
  have e2 : t_frontier_mark n = 2 ↔ MK (HH s) n = 2 := by rw [f7 n hn, iI_lit 2, iI_inj4 (by omega) (by omega)]
  have e1 : t_frontier_mark n = 1 ↔ MK (HH s) n = 1 := by rw [f7 n hn, iI_lit 1, iI_inj4 (by omega) (by omega)]
  subst hx
  unfold wp_X10_writeFrontier_b38
  rw [iI_clN (by omega), f5.1 n hn, f5.2 n hn, ej, e2, e1, iI_succ]
  refine ⟨hi, sp_putNumber (by omega) ho (by omega) fun len by_ h1 => sp_put h1 (by rw [List.length_append]; omega) fun len by_ h2 => ⟨hi, sp_putNumber (by omega) h2 (by simp only [List.length_append, List.length_cons, List.length_nil]; omega) fun len by_ h3 => ⟨hi, fun c => ⟨hi, fun c2 => ?_, fun c2 => ?_⟩, fun c => ?_⟩⟩⟩
  all_goals refine sp_put h3 (by simp only [List.length_append, List.length_cons, List.length_nil]; omega) fun len by_ h4 => hk len by_ ?_
  all_goals rw [← pw_e]
  · rw [if_neg c, if_neg c2]; exact h4
  · rw [if_neg c, if_pos c2]; exact h4
  · rw [if_pos c]; exact h4
theorem sl_writeFrontierC {s : Nat → Nat} (hW : WF s) {t_now_items : Int32} {t_now_capacity : Int32} {t_now_limit : Int32} {t_now_mustSet : Int32} {t_now_neverSet : Int32} {t_now_weight : Nat → Int32} {t_now_gain : Nat → Int32} {t_now_joy : Nat → Int32} {t_now_bars : Nat → Int32} {t_now_needs : Nat → Int32} {t_frontierFresh : Int32} {t_choices_sets : Int32} {t_choices_limit : Int32} {t_choices_mustSet : Int32} {t_choices_neverSet : Int32} {t_choices_weight : Nat → Int32} {t_choices_gain : Nat → Int32} {t_choices_joy : Nat → Int32} {t_choices_barred : Nat → Int32} {t_choices_needed : Nat → Int32} {t_stairs_allowedCount : Int32} {t_stairs_joyAt : Nat → Int32} {t_frontier_size : Int32} {t_frontier_vertexCount : Int32} {t_frontier_allowedCount : Int32} {t_frontier_areaBelow : Int32} {t_frontier_pointAt : Nat → Int32} {t_frontier_gain : Nat → Int32} {t_frontier_joy : Nat → Int32} {t_frontier_choice : Nat → Int32} {t_frontier_times : Nat → Int32} {t_frontier_light : Nat → Int32} {t_frontier_mark : Nat → Int32} {t_frontier_vertexPoint : Nat → Int32} {Q : Int32 → Int32 → Int32 → Int32 → Int32 → Int32 → (Nat → Int32) → (Nat → Int32) → (Nat → Int32) → (Nat → Int32) → (Nat → Int32) → Int32 → (Nat → Int32) → Int32 → Int32 → Int32 → Int32 → (Nat → Int32) → (Nat → Int32) → (Nat → Int32) → (Nat → Int32) → (Nat → Int32) → (Nat → Int32) → (Nat → Int32) → (Nat → Int32) → Int32 → (Nat → Int32) → Prop} (hF : frP s t_frontier_size t_frontier_vertexCount t_frontier_allowedCount t_frontier_areaBelow t_frontier_pointAt t_frontier_gain t_frontier_joy t_frontier_choice t_frontier_times t_frontier_light t_frontier_mark t_frontier_vertexPoint) (hQ : ∀ len by_, outP (fw (HH s) (PN (HH s))) len by_ → Q len t_frontierFresh t_choices_sets t_choices_limit t_choices_mustSet t_choices_neverSet t_choices_weight t_choices_gain t_choices_joy t_choices_barred t_choices_needed t_stairs_allowedCount t_stairs_joyAt t_frontier_size t_frontier_vertexCount t_frontier_allowedCount t_frontier_areaBelow t_frontier_pointAt t_frontier_gain t_frontier_joy t_frontier_choice t_frontier_times t_frontier_light t_frontier_mark t_frontier_vertexPoint len by_) :
    ∀ (d n : Nat) (len : Int32) (by_ : Nat → Int32), n + d = PN (HH s) → outP (fw (HH s) n) len by_ → wp_X10_writeFrontier_L14 t_now_items t_now_capacity t_now_limit t_now_mustSet t_now_neverSet t_now_weight t_now_gain t_now_joy t_now_bars t_now_needs t_frontierFresh t_choices_sets t_choices_limit t_choices_mustSet t_choices_neverSet t_choices_weight t_choices_gain t_choices_joy t_choices_barred t_choices_needed t_stairs_allowedCount t_stairs_joyAt t_frontier_size t_frontier_vertexCount t_frontier_allowedCount t_frontier_areaBelow t_frontier_pointAt t_frontier_gain t_frontier_joy t_frontier_choice t_frontier_times t_frontier_light t_frontier_mark t_frontier_vertexPoint Q (d + 1) (iI (n : Nat)) len by_ := by
  have hN := PN_le (HH s)
  have f1 := hF.1
  intro d
  induction d with
  | zero =>
    intro n len by_ hn ho
    unfold wp_X10_writeFrontier_L14
    obtain rfl : n = PN (HH s) := by omega
    exact ⟨fun _ => hQ len by_ ho, fun z => absurd (by rw [f1]; exact Int32.le_refl _) z⟩
  | succ d ih =>
    intro n len by_ hn ho
    have b0 := fw_le (HH s) n
    have e0 : t_frontier_size ≤ iI (n : Nat) ↔ (PN (HH s) : Int) ≤ (n : Int) := by rw [f1, iI_le (by omega) (by omega) (by omega) (by omega)]
    have e1 : iI (n : Nat) ≤ 0 ↔ n = 0 := by rw [iI_lit 0, iI_le (by omega) (by omega) (by omega) (by omega)]; omega
    have fs := fw_s (HH s) n
    unfold wp_X10_writeFrontier_L14
    rw [e0, e1]
    refine ⟨fun z => absurd z (by omega), fun _ => ⟨fun c => ?_, fun c => sp_put ho (by omega) fun len by_ h1 => ?_⟩⟩
    · rw [if_pos c, List.append_nil] at fs
      refine sl_wfB hW hF (n := n) (by omega) rfl ho (by omega) fun len by_ h2 => ?_
      rw [← fs] at h2
      exact ih (n + 1) len by_ (by omega) h2
    · rw [if_neg c] at fs
      refine sl_wfB hW hF (n := n) (by omega) rfl h1 (by rw [l1]; omega) fun len by_ h2 => ?_
      rw [← fs] at h2
      exact ih (n + 1) len by_ (by omega) h2
theorem sq_writeFrontier {s : Nat → Nat} (hW : WF s) {hand : Int32} {t_frontierFresh : Int32} {t_now_items : Int32} {t_now_capacity : Int32} {t_now_limit : Int32} {t_now_mustSet : Int32} {t_now_neverSet : Int32} {t_choices_sets : Int32} {t_choices_limit : Int32} {t_choices_mustSet : Int32} {t_choices_neverSet : Int32} {t_choices_weight : Nat → Int32} {t_now_weight : Nat → Int32} {t_choices_gain : Nat → Int32} {t_now_gain : Nat → Int32} {t_choices_joy : Nat → Int32} {t_now_joy : Nat → Int32} {t_choices_barred : Nat → Int32} {t_now_bars : Nat → Int32} {t_choices_needed : Nat → Int32} {t_now_needs : Nat → Int32} {t_stairs_allowedCount : Int32} {t_stairs_joyAt : Nat → Int32} {t_frontier_size : Int32} {t_frontier_vertexCount : Int32} {t_frontier_allowedCount : Int32} {t_frontier_areaBelow : Int32} {t_frontier_pointAt : Nat → Int32} {t_frontier_gain : Nat → Int32} {t_frontier_joy : Nat → Int32} {t_frontier_choice : Nat → Int32} {t_frontier_times : Nat → Int32} {t_frontier_light : Nat → Int32} {t_frontier_mark : Nat → Int32} {t_frontier_vertexPoint : Nat → Int32} {t_output_length : Int32} {t_output_bytes : Nat → Int32} {Q : Int32 → Int32 → Int32 → Int32 → Int32 → Int32 → (Nat → Int32) → (Nat → Int32) → (Nat → Int32) → (Nat → Int32) → (Nat → Int32) → Int32 → (Nat → Int32) → Int32 → Int32 → Int32 → Int32 → (Nat → Int32) → (Nat → Int32) → (Nat → Int32) → (Nat → Int32) → (Nat → Int32) → (Nat → Int32) → (Nat → Int32) → (Nat → Int32) → Int32 → (Nat → Int32) → Prop} (hS : suP s t_now_items t_now_capacity t_now_limit t_now_mustSet t_now_neverSet hand t_now_weight t_now_gain t_now_joy t_now_bars t_now_needs) (hD : dkP s t_frontierFresh t_choices_sets t_choices_limit t_choices_mustSet t_choices_neverSet t_choices_weight t_choices_gain t_choices_joy t_choices_barred t_choices_needed t_frontier_size t_frontier_vertexCount t_frontier_allowedCount t_frontier_areaBelow t_frontier_pointAt t_frontier_gain t_frontier_joy t_frontier_choice t_frontier_times t_frontier_light t_frontier_mark t_frontier_vertexPoint) (hQ : ∀ len by_, outP (fw (HH s) (PN (HH s))) len by_ → DQ s (fun ff sets lim must nev cw cg cj cb cn sac sja size vc ac area pa g j ch ti li mk vp => Q (iI ((fw (HH s) (PN (HH s))).length : Nat)) ff sets lim must nev cw cg cj cb cn sac sja size vc ac area pa g j ch ti li mk vp len by_)) : wp_X10_writeFrontier t_frontierFresh t_now_items t_now_capacity t_now_limit t_now_mustSet t_now_neverSet t_choices_sets t_choices_limit t_choices_mustSet t_choices_neverSet t_choices_weight t_now_weight t_choices_gain t_now_gain t_choices_joy t_now_joy t_choices_barred t_now_bars t_choices_needed t_now_needs t_stairs_allowedCount t_stairs_joyAt t_frontier_size t_frontier_vertexCount t_frontier_allowedCount t_frontier_areaBelow t_frontier_pointAt t_frontier_gain t_frontier_joy t_frontier_choice t_frontier_times t_frontier_light t_frontier_mark t_frontier_vertexPoint t_output_length t_output_bytes Q := by
  unfold wp_X10_writeFrontier
  refine sp_refresh hW hS hD fun sets lim must nev cw cg cj cb cn sac sja size vc ac area pa g j ch ti li mk vp hP hF => ⟨PN (HH s) + 1, ?_⟩
  have hd := dkP_1 hP hF
  rw [show (0 : Int32) = iI ((0 : Nat) : Int) from iI_lit 0]
  refine sl_writeFrontierC hW hF (fun len by_ ho => ?_) (PN (HH s)) 0 _ _ (Nat.zero_add _) (by rw [← iI_lit 0]; exact outP_0 _)
  have := hQ len by_ ho 1 sets lim must nev cw cg cj cb cn sac sja size vc ac area pa g j ch ti li mk vp hd
  rw [← ho.1] at this
  exact this
theorem sp_hasBit {set k : Nat} (hs : set < 2147483648) (hk : k < 32) {Q : Int32 → Prop} (hQ : Q (if set.testBit k then 1 else 0)) : wp_X10_hasBit (iI set) (iI (k : Nat)) Q := by
  unfold wp_X10_hasBit
  rw [iI_bit hs hk]
  by_cases c : set.testBit k
  · rw [if_pos c] at hQ ⊢
    exact ⟨fun h => absurd h (by decide), fun _ => hQ⟩
  · rw [if_neg c] at hQ ⊢
    exact ⟨fun _ => hQ, fun h => absurd rfl h⟩
theorem sl_wcB {s : Nat → Nat} (hW : WF s) {t_now_items : Int32} {t_now_capacity : Int32} {t_now_limit : Int32} {t_now_mustSet : Int32} {t_now_neverSet : Int32} {t_now_weight : Nat → Int32} {t_now_gain : Nat → Int32} {t_now_joy : Nat → Int32} {t_now_bars : Nat → Int32} {t_now_needs : Nat → Int32} {x1 : Int32} {t_frontierFresh : Int32} {t_choices_sets : Int32} {t_choices_limit : Int32} {t_choices_mustSet : Int32} {t_choices_neverSet : Int32} {t_choices_weight : Nat → Int32} {t_choices_gain : Nat → Int32} {t_choices_joy : Nat → Int32} {t_choices_barred : Nat → Int32} {t_choices_needed : Nat → Int32} {t_stairs_allowedCount : Int32} {t_stairs_joyAt : Nat → Int32} {t_frontier_size : Int32} {t_frontier_vertexCount : Int32} {t_frontier_allowedCount : Int32} {t_frontier_areaBelow : Int32} {t_frontier_pointAt : Nat → Int32} {t_frontier_gain : Nat → Int32} {t_frontier_joy : Nat → Int32} {t_frontier_choice : Nat → Int32} {t_frontier_times : Nat → Int32} {t_frontier_light : Nat → Int32} {t_frontier_mark : Nat → Int32} {t_frontier_vertexPoint : Nat → Int32} {k74 : Int32 → (Nat → Int32) → Prop} {Q : Int32 → Int32 → Int32 → Int32 → Int32 → Int32 → (Nat → Int32) → (Nat → Int32) → (Nat → Int32) → (Nat → Int32) → (Nat → Int32) → Int32 → (Nat → Int32) → Int32 → Int32 → Int32 → Int32 → (Nat → Int32) → (Nat → Int32) → (Nat → Int32) → (Nat → Int32) → (Nat → Int32) → (Nat → Int32) → (Nat → Int32) → (Nat → Int32) → Int32 → (Nat → Int32) → Prop} (hi : t_now_items = iI (s 0)) {n c : Nat} (hn : n < 1189) (hx : x1 = iI (n : Nat)) (hc : t_frontier_choice n = iI (c : Nat)) (hc2 : c < 4096) {l : List Int32} (hl : l.length ≤ 15444) (hk : ∀ len by_, outP (l ++ bw c (s 0)) len by_ → k74 len by_) :
    ∀ (d k : Nat) (len : Int32) (by_ : Nat → Int32), k + d = s 0 → outP (l ++ bw c k) len by_ → wp_X10_writeChoices_L27 t_now_items t_now_capacity t_now_limit t_now_mustSet t_now_neverSet t_now_weight t_now_gain t_now_joy t_now_bars t_now_needs x1 t_frontierFresh t_choices_sets t_choices_limit t_choices_mustSet t_choices_neverSet t_choices_weight t_choices_gain t_choices_joy t_choices_barred t_choices_needed t_stairs_allowedCount t_stairs_joyAt t_frontier_size t_frontier_vertexCount t_frontier_allowedCount t_frontier_areaBelow t_frontier_pointAt t_frontier_gain t_frontier_joy t_frontier_choice t_frontier_times t_frontier_light t_frontier_mark t_frontier_vertexPoint k74 Q (d + 1) (iI (k : Nat)) len by_ := by
  have h12 := hW.1
  subst hx
  intro d
  induction d with
  | zero =>
    intro k len by_ hk2 ho
    unfold wp_X10_writeChoices_L27
    obtain rfl : k = s 0 := by omega
    exact ⟨fun _ => hk len by_ ho, fun z => absurd (by rw [hi]; exact Int32.le_refl _) z⟩
  | succ d ih =>
    intro k len by_ hk2 ho
    unfold wp_X10_writeChoices_L27
    have e0 : t_now_items ≤ iI (k : Nat) ↔ (s 0 : Int) ≤ (k : Int) := by rw [hi, iI_le (by omega) (by omega) (by omega) (by omega)]
    have b := bw_le c k
    rw [e0, iI_clN (by omega), hc, iI_succ]
    refine ⟨fun z => absurd z (by omega), fun _ => ⟨in_lit (by omega) (by omega), sp_hasBit (by omega) (by omega) ?_⟩⟩
    have e2 : bw c (k + 1) = bw c k ++ [bv (if c.testBit k then 49 else 48)] := rfl
    by_cases t : c.testBit k = true
    · rw [if_pos t] at e2 ⊢
      refine ⟨fun z => absurd z (by decide), fun _ => sp_put ho (by rw [List.length_append, b]; omega) fun len by_ h2 => ih (k + 1) len by_ (by omega) ?_⟩
      rw [e2, ← List.append_assoc]
      exact h2
    · rw [if_neg t] at e2 ⊢
      refine ⟨fun _ => sp_put ho (by rw [List.length_append, b]; omega) fun len by_ h2 => ih (k + 1) len by_ (by omega) ?_, fun z => absurd rfl z⟩
      rw [e2, ← List.append_assoc]
      exact h2
theorem sl_writeChoicesC {s : Nat → Nat} (hW : WF s) {t_now_items : Int32} {t_now_capacity : Int32} {t_now_limit : Int32} {t_now_mustSet : Int32} {t_now_neverSet : Int32} {t_now_weight : Nat → Int32} {t_now_gain : Nat → Int32} {t_now_joy : Nat → Int32} {t_now_bars : Nat → Int32} {t_now_needs : Nat → Int32} {t_frontierFresh : Int32} {t_choices_sets : Int32} {t_choices_limit : Int32} {t_choices_mustSet : Int32} {t_choices_neverSet : Int32} {t_choices_weight : Nat → Int32} {t_choices_gain : Nat → Int32} {t_choices_joy : Nat → Int32} {t_choices_barred : Nat → Int32} {t_choices_needed : Nat → Int32} {t_stairs_allowedCount : Int32} {t_stairs_joyAt : Nat → Int32} {t_frontier_size : Int32} {t_frontier_vertexCount : Int32} {t_frontier_allowedCount : Int32} {t_frontier_areaBelow : Int32} {t_frontier_pointAt : Nat → Int32} {t_frontier_gain : Nat → Int32} {t_frontier_joy : Nat → Int32} {t_frontier_choice : Nat → Int32} {t_frontier_times : Nat → Int32} {t_frontier_light : Nat → Int32} {t_frontier_mark : Nat → Int32} {t_frontier_vertexPoint : Nat → Int32} {Q : Int32 → Int32 → Int32 → Int32 → Int32 → Int32 → (Nat → Int32) → (Nat → Int32) → (Nat → Int32) → (Nat → Int32) → (Nat → Int32) → Int32 → (Nat → Int32) → Int32 → Int32 → Int32 → Int32 → (Nat → Int32) → (Nat → Int32) → (Nat → Int32) → (Nat → Int32) → (Nat → Int32) → (Nat → Int32) → (Nat → Int32) → (Nat → Int32) → Int32 → (Nat → Int32) → Prop} (hi : t_now_items = iI (s 0)) (hF : frP s t_frontier_size t_frontier_vertexCount t_frontier_allowedCount t_frontier_areaBelow t_frontier_pointAt t_frontier_gain t_frontier_joy t_frontier_choice t_frontier_times t_frontier_light t_frontier_mark t_frontier_vertexPoint) (hQ : ∀ len by_, outP (chw s (PN (HH s))) len by_ → Q len t_frontierFresh t_choices_sets t_choices_limit t_choices_mustSet t_choices_neverSet t_choices_weight t_choices_gain t_choices_joy t_choices_barred t_choices_needed t_stairs_allowedCount t_stairs_joyAt t_frontier_size t_frontier_vertexCount t_frontier_allowedCount t_frontier_areaBelow t_frontier_pointAt t_frontier_gain t_frontier_joy t_frontier_choice t_frontier_times t_frontier_light t_frontier_mark t_frontier_vertexPoint len by_) :
    ∀ (d n : Nat) (len : Int32) (by_ : Nat → Int32), n + d = PN (HH s) → outP (chw s n) len by_ → wp_X10_writeChoices_L14 t_now_items t_now_capacity t_now_limit t_now_mustSet t_now_neverSet t_now_weight t_now_gain t_now_joy t_now_bars t_now_needs t_frontierFresh t_choices_sets t_choices_limit t_choices_mustSet t_choices_neverSet t_choices_weight t_choices_gain t_choices_joy t_choices_barred t_choices_needed t_stairs_allowedCount t_stairs_joyAt t_frontier_size t_frontier_vertexCount t_frontier_allowedCount t_frontier_areaBelow t_frontier_pointAt t_frontier_gain t_frontier_joy t_frontier_choice t_frontier_times t_frontier_light t_frontier_mark t_frontier_vertexPoint Q (d + 1) (iI (n : Nat)) len by_ := by
  have hN := PN_le (HH s)
  have h12 := hW.1
  obtain ⟨f1, f2, f3, f4, f5, f6, f7, f8⟩ := id hF
  intro d
  induction d with
  | zero =>
    intro n len by_ hn ho
    unfold wp_X10_writeChoices_L14
    obtain rfl : n = PN (HH s) := by omega
    exact ⟨fun _ => hQ len by_ ho, fun z => absurd (by rw [f1]; exact Int32.le_refl _) z⟩
  | succ d ih =>
    intro n len by_ hn ho
    have hn2 : n < PN (HH s) := by omega
    have b0 := chw_le s n
    have b1 : (s 0 + 1) * n ≤ 13 * n := Nat.mul_le_mul_right n (by omega)
    have bb := bw_le (CHo s n) (s 0)
    have e0 : t_frontier_size ≤ iI (n : Nat) ↔ (PN (HH s) : Int) ≤ (n : Int) := by rw [f1, iI_le (by omega) (by omega) (by omega) (by omega)]
    have hcl : CHo s n < 2 ^ s 0 := ch_lt n
    have hp := wf_pow hW
    unfold wp_X10_writeChoices_L14
    rw [e0, iI_succ]
    refine ⟨fun z => absurd z (by omega), fun _ => ⟨s 0 + 1, ?_⟩⟩
    rw [show (0 : Int32) = iI ((0 : Nat) : Int) from iI_lit 0]
    refine sl_wcB hW hi (n := n) (c := CHo s n) (l := chw s n) (by omega) rfl (f6.2.1 n hn2 (tm_pos hn2)) (by omega) (by omega) (fun len by_ h1 => ?_) (s 0) 0 len by_ (Nat.zero_add _) (by simp only [bw, List.append_nil]; exact ho)
    refine sp_put h1 (by rw [List.length_append]; omega) fun len by_ h2 => ih (n + 1) len by_ (by omega) h2
theorem sq_writeChoices {s : Nat → Nat} (hW : WF s) {hand : Int32} {t_frontierFresh : Int32} {t_now_items : Int32} {t_now_capacity : Int32} {t_now_limit : Int32} {t_now_mustSet : Int32} {t_now_neverSet : Int32} {t_choices_sets : Int32} {t_choices_limit : Int32} {t_choices_mustSet : Int32} {t_choices_neverSet : Int32} {t_choices_weight : Nat → Int32} {t_now_weight : Nat → Int32} {t_choices_gain : Nat → Int32} {t_now_gain : Nat → Int32} {t_choices_joy : Nat → Int32} {t_now_joy : Nat → Int32} {t_choices_barred : Nat → Int32} {t_now_bars : Nat → Int32} {t_choices_needed : Nat → Int32} {t_now_needs : Nat → Int32} {t_stairs_allowedCount : Int32} {t_stairs_joyAt : Nat → Int32} {t_frontier_size : Int32} {t_frontier_vertexCount : Int32} {t_frontier_allowedCount : Int32} {t_frontier_areaBelow : Int32} {t_frontier_pointAt : Nat → Int32} {t_frontier_gain : Nat → Int32} {t_frontier_joy : Nat → Int32} {t_frontier_choice : Nat → Int32} {t_frontier_times : Nat → Int32} {t_frontier_light : Nat → Int32} {t_frontier_mark : Nat → Int32} {t_frontier_vertexPoint : Nat → Int32} {t_output_length : Int32} {t_output_bytes : Nat → Int32} {Q : Int32 → Int32 → Int32 → Int32 → Int32 → Int32 → (Nat → Int32) → (Nat → Int32) → (Nat → Int32) → (Nat → Int32) → (Nat → Int32) → Int32 → (Nat → Int32) → Int32 → Int32 → Int32 → Int32 → (Nat → Int32) → (Nat → Int32) → (Nat → Int32) → (Nat → Int32) → (Nat → Int32) → (Nat → Int32) → (Nat → Int32) → (Nat → Int32) → Int32 → (Nat → Int32) → Prop} (hS : suP s t_now_items t_now_capacity t_now_limit t_now_mustSet t_now_neverSet hand t_now_weight t_now_gain t_now_joy t_now_bars t_now_needs) (hD : dkP s t_frontierFresh t_choices_sets t_choices_limit t_choices_mustSet t_choices_neverSet t_choices_weight t_choices_gain t_choices_joy t_choices_barred t_choices_needed t_frontier_size t_frontier_vertexCount t_frontier_allowedCount t_frontier_areaBelow t_frontier_pointAt t_frontier_gain t_frontier_joy t_frontier_choice t_frontier_times t_frontier_light t_frontier_mark t_frontier_vertexPoint) (hQ : ∀ len by_, outP (chw s (PN (HH s))) len by_ → DQ s (fun ff sets lim must nev cw cg cj cb cn sac sja size vc ac area pa g j ch ti li mk vp => Q (iI ((chw s (PN (HH s))).length : Nat)) ff sets lim must nev cw cg cj cb cn sac sja size vc ac area pa g j ch ti li mk vp len by_)) : wp_X10_writeChoices t_frontierFresh t_now_items t_now_capacity t_now_limit t_now_mustSet t_now_neverSet t_choices_sets t_choices_limit t_choices_mustSet t_choices_neverSet t_choices_weight t_now_weight t_choices_gain t_now_gain t_choices_joy t_now_joy t_choices_barred t_now_bars t_choices_needed t_now_needs t_stairs_allowedCount t_stairs_joyAt t_frontier_size t_frontier_vertexCount t_frontier_allowedCount t_frontier_areaBelow t_frontier_pointAt t_frontier_gain t_frontier_joy t_frontier_choice t_frontier_times t_frontier_light t_frontier_mark t_frontier_vertexPoint t_output_length t_output_bytes Q := by
  unfold wp_X10_writeChoices
  refine sp_refresh hW hS hD fun sets lim must nev cw cg cj cb cn sac sja size vc ac area pa g j ch ti li mk vp hP hF => ⟨PN (HH s) + 1, ?_⟩
  have hd := dkP_1 hP hF
  rw [show (0 : Int32) = iI ((0 : Nat) : Int) from iI_lit 0]
  refine sl_writeChoicesC hW hS.1 hF (fun len by_ ho => ?_) (PN (HH s)) 0 _ _ (Nat.zero_add _) (by rw [← iI_lit 0]; exact outP_0 _)
  have := hQ len by_ ho 1 sets lim must nev cw cg cj cb cn sac sja size vc ac area pa g j ch ti li mk vp hd
  rw [← ho.1] at this
  exact this
theorem sq_outputByte {l : List Int32} (hl : l.length ≤ 15457) {p1 : Int32} {t_output_length : Int32} {t_output_bytes : Nat → Int32} {Q : Int32 → Prop} {QX : String → Prop} (ho : outP l t_output_length t_output_bytes) (hQ : 0 ≤ p1.toInt ∧ p1.toInt < l.length → Q (l.getD p1.toInt.toNat 0)) (hX : ¬ (0 ≤ p1.toInt ∧ p1.toInt < l.length) → QX "java/lang/IndexOutOfBoundsException") : wp_X10_outputByte p1 t_output_length t_output_bytes Q QX := by
  unfold wp_X10_outputByte
  have e2 : t_output_length.toInt = l.length := by rw [ho.1, iI_toInt (by omega) (by omega)]
  rw [i_lt0, i_lt, e2]
  refine ⟨fun c => hX (by omega), fun c => ⟨fun d => ⟨by rw [vp_in_iff]; omega, ?_⟩, fun d => hX (by omega)⟩⟩
  rw [ho.2 p1.toNatClampNeg (by show p1.toInt.toNat < l.length; omega)]
  exact hQ (by omega)
/-! the reference's -/
theorem sl_wfR {s : Nat → Nat} (hW : WF s) {t_row : Nat → Int32} {t_thrown : Int32} {t_allowedMany : Int32} {t_pointMany : Int32} {t_cornerMany : Int32} {t_joyAt : Nat → Int32} {t_pointAt : Nat → Int32} {t_pointGain : Nat → Int32} {t_pointJoy : Nat → Int32} {t_pointTimes : Nat → Int32} {t_pointSet : Nat → Int32} {t_pointLight : Nat → Int32} {t_corner : Nat → Int32} {k16 : Int32 → Int32 → (Nat → Int32) → Prop} {Q : Int32 → Int32 → Int32 → Int32 → Int32 → Int32 → (Nat → Int32) → (Nat → Int32) → (Nat → Int32) → (Nat → Int32) → (Nat → Int32) → (Nat → Int32) → (Nat → Int32) → (Nat → Int32) → (Nat → Int32) → Prop} {x1 : Int32} {t_outputSize : Int32} {t_output : Nat → Int32} (hG : ptG (HH s) t_pointGain t_pointJoy) (hV : vxP (HH s) t_cornerMany t_corner) {n : Nat} (hn : n < PN (HH s)) (hx : x1 = iI (n : Nat)) {l : List Int32} (ho : outP l t_outputSize t_output) (hl : l.length ≤ 15000) (hk : ∀ len by_, outP (l ++ pw (HH s) n) len by_ → k16 (iI ((n + 1 : Nat) : Int)) len by_) : wp_X11_writeFrontier_b34 t_row t_thrown t_allowedMany t_pointMany t_cornerMany t_joyAt t_pointAt t_pointGain t_pointJoy t_pointTimes t_pointSet t_pointLight t_corner k16 Q x1 t_outputSize t_output := by
  have hN := PN_le (HH s)
  have hs := HH_stP hW
  have bj := PJ_rng hs hn
  have bg := PG_rng hn
  have bm : MK (HH s) n ≤ 2 := MKs_le (HH s) (VC (HH s)) n
  have hi : vp_in (iI (n : Nat)) 1189 := in_lit (by omega) (by omega)
  have ej : PJ (HH s) n = (((PJ (HH s) n).toNat : Nat) : Int) := by omega
  have g1 := dg_le (PG (HH s) n)
  have g2 := dg_le (PJ (HH s) n).toNat
  subst hx
  unfold wp_X11_writeFrontier_b34
  rw [iI_clN (by omega), hG.1 n hn, hG.2 n hn, ej, iI_succ]
  refine ⟨hi, sp_writeNumber (by omega) ho (by omega) fun len by_ h1 => sp_write h1 (by rw [List.length_append]; omega) fun len by_ h2 => ⟨hi, sp_writeNumber (by omega) h2 (by simp only [List.length_append, List.length_cons, List.length_nil]; omega) fun len by_ h3 => sp_isCorner hV hn ?_⟩⟩
  have fin : ∀ v : Int32, v = (if MK (HH s) n = 2 then 33 else if MK (HH s) n = 1 then 43 else 46) → wp_X11_write v len by_ (fun a b => k16 (iI ((n + 1 : Nat) : Int)) a b) := fun v hv => sp_write h3 (by simp only [List.length_append, List.length_cons, List.length_nil]; omega) fun len by_ h4 => hk len by_ (by rw [← pw_e, ← hv]; exact h4)
  by_cases c : MK (HH s) n = 2
  · rw [if_pos (isV_MK.mpr c)]
    rw [if_pos c] at fin
    exact ⟨fun z => absurd z (by decide), fun _ => fin _ rfl⟩
  · rw [if_neg (fun z => c (isV_MK.mp z))]
    rw [if_neg c] at fin
    refine ⟨fun _ => sp_isSupported hs hG hV hn ?_, fun z => absurd rfl z⟩
    by_cases c2 : MK (HH s) n ≠ 0
    · rw [if_pos c2]
      rw [if_pos (show MK (HH s) n = 1 by omega)] at fin
      exact ⟨fun z => absurd z (by decide), fun _ => fin _ rfl⟩
    · rw [if_neg c2]
      rw [if_neg (show ¬ MK (HH s) n = 1 by omega)] at fin
      exact ⟨fun _ => fin _ rfl, fun z => absurd rfl z⟩
theorem sl_writeFrontierR {s : Nat → Nat} (hW : WF s) {t_row : Nat → Int32} {t_thrown : Int32} {t_allowedMany : Int32} {t_pointMany : Int32} {t_cornerMany : Int32} {t_joyAt : Nat → Int32} {t_pointAt : Nat → Int32} {t_pointGain : Nat → Int32} {t_pointJoy : Nat → Int32} {t_pointTimes : Nat → Int32} {t_pointSet : Nat → Int32} {t_pointLight : Nat → Int32} {t_corner : Nat → Int32} {Q : Int32 → Int32 → Int32 → Int32 → Int32 → Int32 → (Nat → Int32) → (Nat → Int32) → (Nat → Int32) → (Nat → Int32) → (Nat → Int32) → (Nat → Int32) → (Nat → Int32) → (Nat → Int32) → (Nat → Int32) → Prop} (hpm : t_pointMany = iI (PN (HH s) : Nat)) (hG : ptG (HH s) t_pointGain t_pointJoy) (hV : vxP (HH s) t_cornerMany t_corner) (hQ : ∀ len by_, outP (fw (HH s) (PN (HH s))) len by_ → Q len t_thrown t_allowedMany t_pointMany t_cornerMany len t_joyAt t_pointAt t_pointGain t_pointJoy t_pointTimes t_pointSet t_pointLight t_corner by_) :
    ∀ (d n : Nat) (len : Int32) (by_ : Nat → Int32), n + d = PN (HH s) → outP (fw (HH s) n) len by_ → wp_X11_writeFrontier_L16 t_row t_thrown t_allowedMany t_pointMany t_cornerMany t_joyAt t_pointAt t_pointGain t_pointJoy t_pointTimes t_pointSet t_pointLight t_corner Q (d + 1) (iI (n : Nat)) len by_ := by
  have hN := PN_le (HH s)
  intro d
  induction d with
  | zero =>
    intro n len by_ hn ho
    unfold wp_X11_writeFrontier_L16
    obtain rfl : n = PN (HH s) := by omega
    exact ⟨fun _ => hQ len by_ ho, fun z => absurd (by rw [hpm]; exact Int32.le_refl _) z⟩
  | succ d ih =>
    intro n len by_ hn ho
    have b0 := fw_le (HH s) n
    have e0 : t_pointMany ≤ iI (n : Nat) ↔ (PN (HH s) : Int) ≤ (n : Int) := by rw [hpm, iI_le (by omega) (by omega) (by omega) (by omega)]
    have e1 : iI (n : Nat) ≤ 0 ↔ n = 0 := by rw [iI_lit 0, iI_le (by omega) (by omega) (by omega) (by omega)]; omega
    have fs := fw_s (HH s) n
    unfold wp_X11_writeFrontier_L16
    rw [e0, e1]
    refine ⟨fun z => absurd z (by omega), fun _ => ⟨fun c => ?_, fun c => sp_write ho (by omega) fun len by_ h1 => ?_⟩⟩
    · rw [if_pos c, List.append_nil] at fs
      refine sl_wfR hW hG hV (n := n) (by omega) rfl ho (by omega) fun len by_ h2 => ?_
      rw [← fs] at h2
      exact ih (n + 1) len by_ (by omega) h2
    · rw [if_neg c] at fs
      refine sl_wfR hW hG hV (n := n) (by omega) rfl h1 (by rw [l1]; omega) fun len by_ h2 => ?_
      rw [← fs] at h2
      exact ih (n + 1) len by_ (by omega) h2
theorem sr_writeFrontier {s : Nat → Nat} (hW : WF s) {t_thrown : Int32} {t_allowedMany : Int32} {t_pointMany : Int32} {t_cornerMany : Int32} {t_outputSize : Int32} {t_joyAt : Nat → Int32} {t_row : Nat → Int32} {t_pointAt : Nat → Int32} {t_pointGain : Nat → Int32} {t_pointJoy : Nat → Int32} {t_pointTimes : Nat → Int32} {t_pointSet : Nat → Int32} {t_pointLight : Nat → Int32} {t_corner : Nat → Int32} {t_output : Nat → Int32} {Q : Int32 → Int32 → Int32 → Int32 → Int32 → Int32 → (Nat → Int32) → (Nat → Int32) → (Nat → Int32) → (Nat → Int32) → (Nat → Int32) → (Nat → Int32) → (Nat → Int32) → (Nat → Int32) → (Nat → Int32) → Prop} (hN : neP s t_row) (hQ : ∀ am pm cm ja pa g j ti ch li co len by_, outP (fw (HH s) (PN (HH s))) len by_ → Q (iI ((fw (HH s) (PN (HH s))).length : Nat)) 0 am pm cm len ja pa g j ti ch li co by_) : wp_X11_writeFrontier t_thrown t_allowedMany t_pointMany t_cornerMany t_outputSize t_joyAt t_row t_pointAt t_pointGain t_pointJoy t_pointTimes t_pointSet t_pointLight t_corner t_output Q := by
  unfold wp_X11_writeFrontier
  refine sp_layCornersToo hW hN fun am pm cm ja pa g j ti ch li co hM => ⟨PN (HH s) + 1, ?_⟩
  have := sl_writeFrontierR hW (Q := Q) (t_row := t_row) (t_thrown := 0) (t_allowedMany := am) (t_joyAt := ja) (t_pointAt := pa) (t_pointTimes := ti) (t_pointSet := ch) (t_pointLight := li) hM.1.2.1 hM.1.2.2.2.2 hM.2.2 (fun len by_ ho => by
    have := hQ am pm cm ja pa g j ti ch li co len by_ ho
    rw [← ho.1] at this
    exact this) (PN (HH s)) 0 0 t_output (Nat.zero_add _) (outP_0 _)
  rw [← iI_lit 0] at this
  exact this
theorem sl_wcR {s : Nat → Nat} (hW : WF s) {t_row : Nat → Int32} {x1 : Int32} {t_thrown : Int32} {t_allowedMany : Int32} {t_pointMany : Int32} {t_joyAt : Nat → Int32} {t_pointAt : Nat → Int32} {t_pointGain : Nat → Int32} {t_pointJoy : Nat → Int32} {t_pointTimes : Nat → Int32} {t_pointSet : Nat → Int32} {t_pointLight : Nat → Int32} {k64 : Int32 → (Nat → Int32) → Prop} {Q : Int32 → Int32 → Int32 → Int32 → Int32 → (Nat → Int32) → (Nat → Int32) → (Nat → Int32) → (Nat → Int32) → (Nat → Int32) → (Nat → Int32) → (Nat → Int32) → (Nat → Int32) → Prop} (hN : neP s t_row) {n c : Nat} (hn : n < 1189) (hx : x1 = iI (n : Nat)) (hc : t_pointSet n = iI (c : Nat)) (hc2 : c < 4096) {l : List Int32} (hl : l.length ≤ 15444) (hk : ∀ len by_, outP (l ++ bw c (s 0)) len by_ → k64 len by_) :
    ∀ (d k : Nat) (len : Int32) (by_ : Nat → Int32), k + d = s 0 → outP (l ++ bw c k) len by_ → wp_X11_writeChoices_L26 t_row x1 t_thrown t_allowedMany t_pointMany t_joyAt t_pointAt t_pointGain t_pointJoy t_pointTimes t_pointSet t_pointLight k64 Q (d + 1) (iI (k : Nat)) len by_ := by
  have h12 := hW.1
  subst hx
  intro d
  induction d with
  | zero =>
    intro k len by_ hk2 ho
    unfold wp_X11_writeChoices_L26
    obtain rfl : k = s 0 := by omega
    exact sp_many hN ⟨fun _ => hk len by_ ho, fun z => absurd (Int32.le_refl _) z⟩
  | succ d ih =>
    intro k len by_ hk2 ho
    unfold wp_X11_writeChoices_L26
    have b := bw_le c k
    refine sp_many hN ?_
    rw [iI_le (by omega) (by omega) (by omega) (by omega), iI_clN (by omega), hc, iI_succ]
    refine ⟨fun z => absurd z (by omega), fun _ => ⟨in_lit (by omega) (by omega), sp_has (by omega) (by omega) ?_⟩⟩
    have e2 : bw c (k + 1) = bw c k ++ [bv (if c.testBit k then 49 else 48)] := rfl
    by_cases t : c.testBit k = true
    · rw [if_pos t] at e2 ⊢
      refine ⟨fun z => absurd z (by decide), fun _ => sp_write ho (by rw [List.length_append, b]; omega) fun len by_ h2 => ih (k + 1) len by_ (by omega) ?_⟩
      rw [e2, ← List.append_assoc]
      exact h2
    · rw [if_neg t] at e2 ⊢
      refine ⟨fun _ => sp_write ho (by rw [List.length_append, b]; omega) fun len by_ h2 => ih (k + 1) len by_ (by omega) ?_, fun z => absurd rfl z⟩
      rw [e2, ← List.append_assoc]
      exact h2
theorem sl_writeChoicesR {s : Nat → Nat} (hW : WF s) {t_row : Nat → Int32} {t_thrown : Int32} {t_allowedMany : Int32} {t_pointMany : Int32} {t_joyAt : Nat → Int32} {t_pointAt : Nat → Int32} {t_pointGain : Nat → Int32} {t_pointJoy : Nat → Int32} {t_pointTimes : Nat → Int32} {t_pointSet : Nat → Int32} {t_pointLight : Nat → Int32} {Q : Int32 → Int32 → Int32 → Int32 → Int32 → (Nat → Int32) → (Nat → Int32) → (Nat → Int32) → (Nat → Int32) → (Nat → Int32) → (Nat → Int32) → (Nat → Int32) → (Nat → Int32) → Prop} (hN : neP s t_row) (hpm : t_pointMany = iI (PN (HH s) : Nat)) (hC : coP s (s 1) (HH s) (2 ^ s 0) t_pointTimes t_pointSet t_pointLight) (hQ : ∀ len by_, outP (chw s (PN (HH s))) len by_ → Q len t_thrown t_allowedMany t_pointMany len t_joyAt t_pointAt t_pointGain t_pointJoy t_pointTimes t_pointSet t_pointLight by_) :
    ∀ (d n : Nat) (len : Int32) (by_ : Nat → Int32), n + d = PN (HH s) → outP (chw s n) len by_ → wp_X11_writeChoices_L16 t_row t_thrown t_allowedMany t_pointMany t_joyAt t_pointAt t_pointGain t_pointJoy t_pointTimes t_pointSet t_pointLight Q (d + 1) (iI (n : Nat)) len by_ := by
  have hN2 := PN_le (HH s)
  have h12 := hW.1
  intro d
  induction d with
  | zero =>
    intro n len by_ hn ho
    unfold wp_X11_writeChoices_L16
    obtain rfl : n = PN (HH s) := by omega
    exact ⟨fun _ => hQ len by_ ho, fun z => absurd (by rw [hpm]; exact Int32.le_refl _) z⟩
  | succ d ih =>
    intro n len by_ hn ho
    have hn2 : n < PN (HH s) := by omega
    have b0 := chw_le s n
    have b1 : (s 0 + 1) * n ≤ 13 * n := Nat.mul_le_mul_right n (by omega)
    have bb := bw_le (CHo s n) (s 0)
    have e0 : t_pointMany ≤ iI (n : Nat) ↔ (PN (HH s) : Int) ≤ (n : Int) := by rw [hpm, iI_le (by omega) (by omega) (by omega) (by omega)]
    have hcl : CHo s n < 2 ^ s 0 := ch_lt n
    have hp := wf_pow hW
    unfold wp_X11_writeChoices_L16
    rw [e0, iI_succ]
    refine ⟨fun z => absurd z (by omega), fun _ => ⟨s 0 + 1, ?_⟩⟩
    rw [show (0 : Int32) = iI ((0 : Nat) : Int) from iI_lit 0]
    refine sl_wcR hW hN (n := n) (c := CHo s n) (l := chw s n) (by omega) rfl (hC.2.1 n hn2 (tm_pos hn2)) (by omega) (by omega) (fun len by_ h1 => ?_) (s 0) 0 len by_ (Nat.zero_add _) (by simp only [bw, List.append_nil]; exact ho)
    refine sp_write h1 (by rw [List.length_append]; omega) fun len by_ h2 => ih (n + 1) len by_ (by omega) h2
theorem sr_writeChoices {s : Nat → Nat} (hW : WF s) {t_thrown : Int32} {t_allowedMany : Int32} {t_pointMany : Int32} {t_outputSize : Int32} {t_joyAt : Nat → Int32} {t_row : Nat → Int32} {t_pointAt : Nat → Int32} {t_pointGain : Nat → Int32} {t_pointJoy : Nat → Int32} {t_pointTimes : Nat → Int32} {t_pointSet : Nat → Int32} {t_pointLight : Nat → Int32} {t_output : Nat → Int32} {Q : Int32 → Int32 → Int32 → Int32 → Int32 → (Nat → Int32) → (Nat → Int32) → (Nat → Int32) → (Nat → Int32) → (Nat → Int32) → (Nat → Int32) → (Nat → Int32) → (Nat → Int32) → Prop} (hN : neP s t_row) (hQ : ∀ am pm ja pa g j ti ch li len by_, outP (chw s (PN (HH s))) len by_ → Q (iI ((chw s (PN (HH s))).length : Nat)) 0 am pm len ja pa g j ti ch li by_) : wp_X11_writeChoices t_thrown t_allowedMany t_pointMany t_outputSize t_joyAt t_row t_pointAt t_pointGain t_pointJoy t_pointTimes t_pointSet t_pointLight t_output Q := by
  unfold wp_X11_writeChoices
  refine sp_layA hW hN fun am pm ja pa g j ti ch li hM hC => ⟨PN (HH s) + 1, ?_⟩
  have := sl_writeChoicesR hW (Q := Q) (t_row := t_row) (t_thrown := 0) (t_allowedMany := am) (t_joyAt := ja) (t_pointAt := pa) (t_pointGain := g) (t_pointJoy := j) (t_pointTimes := ti) (t_pointSet := ch) (t_pointLight := li) hN hM.2.1 hC (fun len by_ ho => by
    have := hQ am pm ja pa g j ti ch li len by_ ho
    rw [← ho.1] at this
    exact this) (PN (HH s)) 0 0 t_output (Nat.zero_add _) (outP_0 _)
  rw [← iI_lit 0] at this
  exact this
theorem sr_outputByte {l : List Int32} (hl : l.length ≤ 15457) {p1 : Int32} {t_thrown : Int32} {t_outputSize : Int32} {t_output : Nat → Int32} {Q : Int32 → Int32 → Prop} (ho : outP l t_outputSize t_output) (hQ : Q (if 0 ≤ p1.toInt ∧ p1.toInt < l.length then l.getD p1.toInt.toNat 0 else 0) (if 0 ≤ p1.toInt ∧ p1.toInt < l.length then 0 else 1)) : wp_X11_outputByte p1 t_thrown t_outputSize t_output Q := by
  unfold wp_X11_outputByte
  refine sp_inN (N := l.length) (by omega) ho.1 (sp_passes ?_)
  by_cases h : 0 ≤ p1.toInt ∧ p1.toInt < (l.length : Int)
  · rw [if_pos h]
    simp only [if_pos h] at hQ
    refine ⟨fun z => absurd z (by decide), fun _ => ⟨by rw [vp_in_iff]; omega, ?_⟩⟩
    rw [ho.2 p1.toNatClampNeg (by show p1.toInt.toNat < l.length; omega)]
    exact hQ
  · rw [if_neg h]
    simp only [if_neg h] at hQ
    exact ⟨fun _ => hQ, fun z => absurd rfl z⟩
theorem fw_len {s : Nat → Nat} : (fw (HH s) (PN (HH s))).length ≤ 15457 := by
  have := fw_le (HH s) (PN (HH s))
  have := PN_le (HH s)
  omega
theorem chw_len {s : Nat → Nat} (hW : WF s) : (chw s (PN (HH s))).length ≤ 15457 := by
  have h1 := chw_le s (PN (HH s))
  have h2 := PN_le (HH s)
  have h3 := hW.1
  have h4 : (s 0 + 1) * PN (HH s) ≤ 13 * PN (HH s) := Nat.mul_le_mul_right _ (by omega)
  omega
