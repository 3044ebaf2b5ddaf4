/-! WORDS AND NUMBERS: both parsers pass them alike -/
abbrev TK := Nat × Nat × Nat × Int
abbrev ER := Nat × Nat
abbrev TG (n : Nat) (t : TK) : Prop := t.1 ≤ 3 ∧ t.2.1 ≤ t.2.2.1 ∧ t.2.2.1 ≤ n ∧ 0 ≤ t.2.2.2 ∧ t.2.2.2 ≤ 100000 ∧ (t.1 = 3 → t.2.1 < n)
abbrev nxt (n : Nat) (by_ : Nat → Int) (t : TK) : TK := tkn n by_ t.2.2.1
theorem TG_tkn {n : Nat} {by_ : Nat → Int} {p : Nat} (h : p ≤ n) : TG n (tkn n by_ p) := by
  obtain ⟨h1, h2, h3, h4, h5, h6, h7⟩ := tkn_rng (by_ := by_) h
  exact ⟨h1, h3, h4, h5, h6, h7⟩
theorem TG_nxt {n : Nat} {by_ : Nat → Int} {t : TK} (h : TG n t) : TG n (nxt n by_ t) := TG_tkn h.2.2.1
def gW (w : List Int32) : Prop := w.length ≤ 20 ∧ ∀ i, i < w.length → ((w.getD i 0 &&& 255).toUInt32 % 65536).toInt32 = w.getD i 0 ∧ nzR .char (w.getD i 0)
theorem gw_c : ∀ k : Nat, k < 128 → ((iI (k : Nat) &&& 255).toUInt32 % 65536).toInt32 = iI (k : Nat) ∧ (iI (k : Nat)).toUInt32.toUInt16.toUInt32.toInt32 = iI (k : Nat) := by decide +kernel
theorem gW_of {w : List Int32} (h1 : w.length ≤ 20) (h2 : ∀ x ∈ w, 0 ≤ x.toInt ∧ x.toInt < 128) : gW w := by
  refine ⟨h1, fun i hi => ?_⟩
  have hm : w.getD i 0 ∈ w := by
    have e : w.getD i 0 = w[i] := by simp [List.getD, hi]
    rw [e]; exact List.getElem_mem hi
  obtain ⟨a, b⟩ := h2 _ hm
  have e : w.getD i 0 = iI ((w.getD i 0).toInt.toNat : Nat) := by
    rw [Int.toNat_of_nonneg a]; exact iI_of _
  obtain ⟨c, d⟩ := gw_c (w.getD i 0).toInt.toNat (by omega)
  rw [← e] at c d
  exact ⟨c, congrArg Value.int d⟩
def b01 (b : Bool) : Int32 := if b = true then 1 else 0
def mch (by_ : Nat → Int) (st : Nat) (w : List Int32) : Nat → Nat → Bool
  | 0, _ => true
  | d + 1, i => if iI (by_ (st + i)) = w.getD i 0 then mch by_ st w d (i + 1) else false
def isW (by_ : Nat → Int) (t : TK) (w : List Int32) : Bool := if t.1 = 1 then (if t.2.2.1 - t.2.1 = w.length then mch by_ t.2.1 w w.length 0 else false) else false
theorem len_sh : ∀ k : Nat, k < 21 → Int32.ofNat k >>> (0 &&& 31) = iI (k : Nat) ∧ Int32.ofNat k = iI (k : Nat) := by decide +kernel
theorem sp_len {w : List Int32} (hw : w.length ≤ 20) {Q : Int32 → Prop} (hQ : Q (iI (w.length : Nat))) : wp_J0_length_8abf5 w Q := by
  unfold wp_J0_length_8abf5
  rw [(len_sh w.length (by omega)).1]
  exact hQ
theorem sp_charAt {w : List Int32} (hw : gW w) {i : Nat} (hi : i < w.length) {Q : Int32 → Prop} (hQ : Q (w.getD i 0)) : wp_J0_charAt_5068e (iI (i : Nat)) w Q := by
  have hl := hw.1
  obtain ⟨a, b⟩ := hw.2 i hi
  unfold wp_J0_charAt_5068e wp_J1_charAt_3b067 wp_J0_checkIndex_df160 wp_J3_checkIndex_8e157
  rw [(len_sh w.length (by omega)).2, iI_lit 0, iI_lt (by omega) (by omega) (by omega) (by omega), iI_lt (by omega) (by omega) (by omega) (by omega), iI_clN (by omega)]
  refine ⟨fun z => by omega, fun _ => ⟨fun _ => ⟨in_lit hi (by omega), ?_⟩, fun z => by omega⟩⟩
  rw [← iI_lit 0, a]
  exact ⟨b, b, hQ⟩
theorem sl_isWord5 {n : Nat} {by_ : Nat → Int} {t1_bs : List Int32} {t_text : Nat → Int32} {Q : Int32 → Prop} (hT : txP n by_ t_text) (hw : gW t1_bs) {t : TK} (hL : t.2.1 + t1_bs.length = t.2.2.1) (hG : TG n t) : ∀ (d i : Nat), i + d = t1_bs.length → Q (b01 (mch by_ t.2.1 t1_bs d i)) → wp_X5_isWord_L28 t1_bs (iI (n:Nat)) (iI (t.1:Nat)) (iI (t.2.1:Nat)) (iI (t.2.2.1:Nat)) t_text Q (d + 1) (iI (i : Nat)) := by
  obtain ⟨hn, hb, ht⟩ := hT
  have hl := hw.1
  obtain ⟨g1, g2, g3, g4⟩ := hG
  intro d
  induction d with
  | zero =>
    intro i hi hk
    unfold wp_X5_isWord_L28
    refine sp_len hl ?_
    rw [iI_le (by omega) (by omega) (by omega) (by omega)]
    exact ⟨fun _ => hk, fun z => by omega⟩
  | succ d ih =>
    intro i hi hk
    unfold wp_X5_isWord_L28
    refine sp_len hl ?_
    simp only [mch] at hk
    rw [iI_le (by omega) (by omega) (by omega) (by omega), iI_add, show ((t.2.1 : Int) + (i : Int)) = ((t.2.1 + i : Nat) : Int) by omega, iI_le (by omega) (by omega) (by omega) (by omega), iI_clN (by omega), ht _ (by omega), iI_s1 i]
    refine ⟨fun z => by omega, fun _ => ⟨fun z => by omega, fun _ => ⟨in_lit (by omega) (by omega), sp_charAt hw (by omega) ⟨fun c => ?_, fun c => ?_⟩⟩⟩⟩
    · rw [if_pos c] at hk; exact ih (i + 1) (by omega) hk
    · rw [if_neg c] at hk; exact hk
theorem sp_isWord5 {n : Nat} {by_ : Nat → Int} {t1_bs : List Int32} {t_text : Nat → Int32} {Q : Int32 → Prop} (hT : txP n by_ t_text) (hw : gW t1_bs) {t : TK} (hG : TG n t) (hQ : Q (b01 (isW by_ t t1_bs))) : wp_X5_isWord t1_bs (iI (n:Nat)) (iI (t.1:Nat)) (iI (t.2.1:Nat)) (iI (t.2.2.1:Nat)) t_text Q := by
  have hn := hT.1
  have hl := hw.1
  have hG2 := hG
  obtain ⟨g1, g2, g3, g4⟩ := hG2
  unfold wp_X5_isWord
  unfold isW at hQ
  rw [show (iI (t.1 : Nat) = 1) ↔ t.1 = 1 from by rw [iI_lit 1, iI_eq (by omega) (by omega) (by omega) (by omega)]; omega, iI_sub, show ((t.2.2.1 : Int) - (t.2.1 : Int)) = ((t.2.2.1 - t.2.1 : Nat) : Int) by omega]
  have hk : ((iI ((t.2.2.1 - t.2.1 : Nat) : Int) = iI (t1_bs.length : Nat)) ↔ t.2.2.1 - t.2.1 = t1_bs.length) := by
    rw [iI_eq (by omega) (by omega) (by omega) (by omega)]
    omega
  refine ⟨fun c => ?_, fun c => sp_len hl ⟨fun d => ⟨t1_bs.length + 1, ?_⟩, fun d => ?_⟩⟩
  · rw [if_neg (by omega)] at hQ; exact hQ
  · have d := hk.mp d
    rw [if_pos (by omega), if_pos (by omega)] at hQ
    exact sl_isWord5 hT hw (by omega) hG t1_bs.length 0 (by omega) hQ
  · have d := fun z => d (hk.mpr z)
    rw [if_pos (by omega), if_neg d] at hQ; exact hQ
def pW (n : Nat) (by_ : Nat → Int) (w : List Int32) (t : TK) : Except ER TK := if isW by_ t w = true then .ok (nxt n by_ t) else .error (1, t.2.1)
def cN (g : Int) (t : TK) : Except ER Nat := if t.1 = 2 then (if t.2.2.2 ≤ g then .ok t.2.2.2.toNat else .error (2, t.2.1)) else .error (1, t.2.1)
def pN (n : Nat) (by_ : Nat → Int) (g : Int) (t : TK) : Except ER (Nat × TK) := match cN g t with
  | .ok v => .ok (v, nxt n by_ t)
  | .error e => .error e
def pE (n : Nat) (by_ : Nat → Int) (t : TK) : Except ER TK := if t.1 = 3 ∧ by_ t.2.1 = 59 then .ok (nxt n by_ t) else .error (1, t.2.1)
theorem sp_passWord {n : Nat} {by_ : Nat → Int} {t1_bs : List Int32} {t_code : Int32} {t_place : Int32} {t_text : Nat → Int32} {Q : Int32 → Int32 → Int32 → Int32 → Int32 → Int32 → Int32 → Prop} (hT : txP n by_ t_text) (hw : gW t1_bs) {t : TK} (hG : TG n t) (hok : ∀ t2, TG n t2 → pW n by_ t1_bs t = .ok t2 → Q 1 t_code t_place (iI (t2.1 : Nat)) (iI (t2.2.1 : Nat)) (iI (t2.2.2.1 : Nat)) (iI t2.2.2.2)) (her : ∀ c p, pW n by_ t1_bs t = .error (c, p) → ∀ k st nx v, Q 0 (iI (c : Nat)) (iI (p : Nat)) k st nx v) : wp_X5_passWord t1_bs t_code t_place (iI (n:Nat)) (iI (t.1:Nat)) (iI (t.2.1:Nat)) (iI (t.2.2.1:Nat)) (iI t.2.2.2) t_text Q := by
  unfold wp_X5_passWord
  refine sp_isWord5 hT hw hG ?_
  unfold pW at hok her
  by_cases c : isW by_ t t1_bs = true
  · rw [c]
    rw [if_pos c] at hok
    exact ⟨fun _ => sp_advance hT hG.2.2.1 (hok _ (TG_nxt hG) rfl), fun z => absurd z (by decide)⟩
  · rw [if_neg c] at her
    rw [Bool.not_eq_true] at c
    rw [c]
    exact ⟨fun z => absurd rfl z, fun _ => ⟨rfl, her 1 t.2.1 rfl _ _ _ _⟩⟩
theorem sp_checkNumber {n : Nat} {t_code : Int32} {t_place : Int32} {Q : Int32 → Int32 → Int32 → Prop} {t : TK} (hG : TG n t) {g : Int} (hg : -1 ≤ g ∧ g ≤ 999) (hok : ∀ v : Nat, t.1 = 2 → t.2.2.2 = v → (v : Int) ≤ g → cN g t = .ok v → Q 1 t_code t_place) (her : ∀ c p, cN g t = .error (c, p) → Q 0 (iI (c : Nat)) (iI (p : Nat))) : wp_X5_checkNumber (iI g) t_code t_place (iI (t.1:Nat)) (iI (t.2.1:Nat)) (iI t.2.2.2) Q := by
  obtain ⟨g1, g2, g3, g4, g5, g6⟩ := hG
  unfold wp_X5_checkNumber
  unfold cN at hok her
  rw [show (iI (t.1 : Nat) = 2) ↔ t.1 = 2 from by rw [iI_lit 2, iI_eq (by omega) (by omega) (by omega) (by omega)]; omega, iI_le (by omega) (by omega) (by omega) (by omega)]
  refine ⟨fun c => ⟨fun d => ?_, fun d => ?_⟩, fun c => ?_⟩
  · exact hok t.2.2.2.toNat c (by omega) (by omega) (by rw [if_pos c, if_pos d])
  · exact ⟨fun _ => her 2 t.2.1 (by rw [if_pos c, if_neg d]), fun z => absurd rfl z⟩
  · exact ⟨rfl, her 1 t.2.1 (by rw [if_neg c])⟩
theorem sp_passNumber {n : Nat} {by_ : Nat → Int} {t_code : Int32} {t_place : Int32} {t_text : Nat → Int32} {Q : Int32 → Int32 → Int32 → Int32 → Int32 → Int32 → Int32 → Prop} (hT : txP n by_ t_text) {t : TK} (hG : TG n t) {g : Int} (hg : -1 ≤ g ∧ g ≤ 999) (hok : ∀ (v : Nat) t2, TG n t2 → (v : Int) ≤ g → pN n by_ g t = .ok (v, t2) → Q (iI (v : Nat)) t_code t_place (iI (t2.1 : Nat)) (iI (t2.2.1 : Nat)) (iI (t2.2.2.1 : Nat)) (iI t2.2.2.2)) (her : ∀ c p, pN n by_ g t = .error (c, p) → ∀ k st nx v, Q (-1) (iI (c : Nat)) (iI (p : Nat)) k st nx v) : wp_X5_passNumber (iI g) t_code t_place (iI (n:Nat)) (iI (t.1:Nat)) (iI (t.2.1:Nat)) (iI (t.2.2.1:Nat)) (iI t.2.2.2) t_text Q := by
  unfold wp_X5_passNumber
  refine sp_checkNumber hG hg (fun v h2 hv hvg hc => ⟨fun _ => sp_advance hT hG.2.2.1 ?_, fun z => absurd z (by decide)⟩) (fun c p hc => ⟨fun z => absurd rfl z, fun _ => her c p (by unfold pN; rw [hc]) _ _ _ _⟩)
  rw [hv]
  exact hok v _ (TG_nxt hG) hvg (by unfold pN; rw [hc])
theorem sp_passEnd {n : Nat} {by_ : Nat → Int} {t_code : Int32} {t_place : Int32} {t_text : Nat → Int32} {Q : Int32 → Int32 → Int32 → Int32 → Int32 → Int32 → Int32 → Prop} (hT : txP n by_ t_text) {t : TK} (hG : TG n t) (hok : ∀ t2, TG n t2 → pE n by_ t = .ok t2 → Q 1 t_code t_place (iI (t2.1 : Nat)) (iI (t2.2.1 : Nat)) (iI (t2.2.2.1 : Nat)) (iI t2.2.2.2)) (her : ∀ c p, pE n by_ t = .error (c, p) → ∀ k st nx v, Q 0 (iI (c : Nat)) (iI (p : Nat)) k st nx v) : wp_X5_passEnd t_code t_place (iI (n:Nat)) (iI (t.1:Nat)) (iI (t.2.1:Nat)) (iI (t.2.2.1:Nat)) (iI t.2.2.2) t_text Q := by
  have hT2 := hT
  obtain ⟨hn, hb, ht⟩ := hT2
  have hG2 := hG
  obtain ⟨g1, g2, g3, g4, g5, g6⟩ := hG2
  have b := hb t.2.1
  unfold wp_X5_passEnd wp_X5_passEnd_b33
  unfold pE at hok her
  rw [show (iI (t.1 : Nat) = 3) ↔ t.1 = 3 from by rw [iI_lit 3, iI_eq (by omega) (by omega) (by omega) (by omega)]; omega, iI_le (by omega) (by omega) (by omega) (by omega)]
  refine ⟨fun c => ⟨rfl, her 1 t.2.1 (by rw [if_neg (fun z => c z.1)]) _ _ _ _⟩, fun c => ⟨fun d => by have := g6 c; omega, fun d => ⟨in_lit (by omega) (by omega), ?_⟩⟩⟩
  rw [iI_clN (by omega), ht _ (by omega), show (59 : Int32) = iI 59 from rfl, iI_eq (by omega) (by omega) (by omega) (by omega)]
  refine ⟨fun d => sp_advance hT hG.2.2.1 (hok _ (TG_nxt hG) (by rw [if_pos ⟨c, d⟩])), fun d => ⟨rfl, her 1 t.2.1 (by rw [if_neg (fun z => d z.2)]) _ _ _ _⟩⟩
