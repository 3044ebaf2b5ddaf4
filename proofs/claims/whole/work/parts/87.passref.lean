/-! THE REFERENCE PASSES WORDS AND NUMBERS; once there is an error it stays -/
theorem sp_goOn {n : Nat} {by_ : Nat → Int} {t_value : Int32} {t_input : Nat → Int32} {Q : Int32 → Int32 → Int32 → Int32 → Prop} (hT : txP n by_ t_input) {t : TK} (hG : TG n t) (hQ : ∀ tv, rvP n by_ (nxt n by_ t) tv → Q (iI ((nxt n by_ t).2.2.1 : Nat)) (iI ((nxt n by_ t).2.1 : Nat)) (iI ((nxt n by_ t).1 : Nat)) tv) : wp_X11_goOn (iI (n:Nat)) (iI (t.2.2.1:Nat)) (iI (t.2.1:Nat)) (iI (t.1:Nat)) t_value 0 t_input Q := by
  unfold wp_X11_goOn wp_X11_good
  exact ⟨fun z => absurd rfl z, fun _ => ⟨fun z => absurd z (by decide), fun _ => sp_scan hT hG.2.2.1 hQ⟩⟩
theorem sp_goOnE {t_textSize : Int32} {t_next : Int32} {t_start : Int32} {t_token : Int32} {t_value : Int32} {t_errorFound : Int32} {t_input : Nat → Int32} {Q : Int32 → Int32 → Int32 → Int32 → Prop} (he : t_errorFound ≠ 0) (hQ : Q t_next t_start t_token t_value) : wp_X11_goOn t_textSize t_next t_start t_token t_value t_errorFound t_input Q := by
  unfold wp_X11_goOn wp_X11_good
  exact ⟨fun _ => ⟨fun _ => hQ, fun z => absurd rfl z⟩, fun z => absurd z he⟩
theorem sp_errs {p1 : Int32} {t_start : Int32} {t_errorPlace : Int32} {Q : Int32 → Int32 → Prop} (hQ : Q p1 t_start) : wp_X11_errs p1 t_start 0 t_errorPlace Q := by
  unfold wp_X11_errs wp_X11_good
  exact ⟨fun z => absurd rfl z, fun _ => ⟨fun _ => hQ, fun z => absurd z (by decide)⟩⟩
theorem sp_errsE {p1 : Int32} {t_start : Int32} {t_errorFound : Int32} {t_errorPlace : Int32} {Q : Int32 → Int32 → Prop} (he : t_errorFound ≠ 0) (hQ : Q t_errorFound t_errorPlace) : wp_X11_errs p1 t_start t_errorFound t_errorPlace Q := by
  unfold wp_X11_errs wp_X11_good
  exact ⟨fun _ => ⟨fun z => absurd rfl z, fun _ => hQ⟩, fun z => absurd z he⟩
theorem sp_lookE {p1 : Int32} {p2 : Int32} {t_start : Int32} {t_token : Int32} {t_value : Int32} {t_errorFound : Int32} {t_errorPlace : Int32} {Q : Int32 → Int32 → Prop} (he : t_errorFound ≠ 0) (hQ : Q t_errorFound t_errorPlace) : wp_X11_look p1 p2 t_start t_token t_value t_errorFound t_errorPlace Q := by
  unfold wp_X11_look wp_X11_look_b20 wp_X11_good
  exact ⟨fun _ => ⟨fun _ => ⟨fun _ => ⟨fun _ => hQ, fun z => absurd rfl z⟩, fun z => absurd z he⟩, fun z => absurd rfl z⟩, fun z => absurd z he⟩
theorem c99_le {v g : Int} (h0 : 0 ≤ v) (hg : g ≤ 999) : (0 ≤ c99 v ∧ c99 v ≤ g) ↔ v ≤ g := by
  unfold c99
  split <;> omega
theorem sp_look {n : Nat} {by_ : Nat → Int} {t_value : Int32} {t_errorPlace : Int32} {Q : Int32 → Int32 → Prop} {t : TK} (hn : n ≤ 600) (hG : TG n t) (hr : rvP n by_ t t_value) {g : Int} (hg : -1 ≤ g ∧ g ≤ 999) (hok : ∀ v : Nat, t.1 = 2 → t.2.2.2 = v → (v : Int) ≤ g → t_value = iI (v : Nat) → cN g t = .ok v → Q 0 t_errorPlace) (her : ∀ c p, c ≠ 0 ∧ c < 5 → cN g t = .error (c, p) → Q (iI (c : Nat)) (iI (p : Nat))) : wp_X11_look 0 (iI g) (iI (t.2.1:Nat)) (iI (t.1:Nat)) t_value 0 t_errorPlace Q := by
  obtain ⟨g1, g2, g3, g4, g5, g6⟩ := hG
  unfold wp_X11_look
  unfold cN at hok her
  have e2 : (iI (t.1 : Nat) = 2) ↔ t.1 = 2 := by
    rw [iI_lit 2, iI_eq (by omega) (by omega) (by omega) (by omega)]
    omega
  rw [e2]
  unfold wp_X11_good
  refine ⟨fun z => absurd rfl z, fun _ => ⟨fun z => absurd z (by decide), fun _ => ⟨fun c => ?_, fun c => sp_errs ?_⟩⟩⟩
  · unfold wp_X11_look_b20 wp_X11_good
    refine ⟨fun z => absurd rfl z, fun _ => ⟨fun z => absurd z (by decide), fun _ => ?_⟩⟩
    have e := hr.1 c
    subst e
    have hc : 0 ≤ c99 t.2.2.2 ∧ c99 t.2.2.2 ≤ 9999 := by unfold c99; split <;> omega
    refine sp_inI (a := 0) (b := g) (by omega) (by decide) (by rw [Int32.toInt_toInt64, iI_toInt (by omega) (by omega)]) ?_
    by_cases d : t.2.2.2 ≤ g
    · rw [if_pos ((c99_le g4 hg.2).mpr d)]
      refine ⟨fun _ => hok t.2.2.2.toNat c (by omega) (by omega) ?_ (by rw [if_pos c, if_pos d]), fun z => absurd z (by decide)⟩
      rw [Int.toNat_of_nonneg g4]
      unfold c99
      rw [if_pos (by omega)]
    · rw [if_neg (fun z => d ((c99_le g4 hg.2).mp z))]
      exact ⟨fun z => absurd rfl z, fun _ => sp_errs (her 2 t.2.1 (by omega) (by rw [if_pos c, if_neg d]))⟩
  · unfold wp_X11_look_b20 wp_X11_good
    exact ⟨fun _ => ⟨fun _ => her 1 t.2.1 (by omega) (by rw [if_neg c]), fun z => absurd rfl z⟩, fun z => absurd z (by decide)⟩
theorem iI_ne0 {c : Nat} (h : c ≠ 0 ∧ c < 5) : iI (c : Nat) ≠ 0 := by
  intro z
  rw [iI_lit 0, iI_eq (by omega) (by omega) (by omega) (by omega)] at z
  omega
theorem sp_number {n : Nat} {by_ : Nat → Int} {t_value : Int32} {t_errorPlace : Int32} {t_input : Nat → Int32} {Q : Int32 → Int32 → Int32 → Int32 → Int32 → Int32 → Int32 → Prop} (hT : txP n by_ t_input) {t : TK} (hG : TG n t) (hr : rvP n by_ t t_value) {g : Int} (hg : -1 ≤ g ∧ g ≤ 999) (hok : ∀ (v : Nat) t2 tv, TG n t2 → rvP n by_ t2 tv → (v : Int) ≤ g → pN n by_ g t = .ok (v, t2) → Q (iI (v : Nat)) (iI (t2.2.2.1 : Nat)) (iI (t2.2.1 : Nat)) (iI (t2.1 : Nat)) tv 0 t_errorPlace) (her : ∀ c p, c ≠ 0 ∧ c < 5 → pN n by_ g t = .error (c, p) → ∀ r nx st k v, Q r nx st k v (iI (c : Nat)) (iI (p : Nat))) : wp_X11_number 0 (iI g) (iI (n:Nat)) (iI (t.2.2.1:Nat)) (iI (t.2.1:Nat)) (iI (t.1:Nat)) t_value 0 t_errorPlace t_input Q := by
  unfold wp_X11_number
  refine sp_look (by_ := by_) hT.1 hG hr hg (fun v h2 hv hvg hx hc => ?_) (fun c p hc0 hc => ?_)
  · unfold wp_X11_good
    refine ⟨fun z => absurd rfl z, fun _ => ⟨fun z => absurd z (by decide), fun _ => sp_goOn hT hG fun tv htv => ?_⟩⟩
    rw [hx]
    exact hok v _ tv (TG_nxt hG) htv hvg (by unfold pN; rw [hc])
  · unfold wp_X11_good
    exact ⟨fun _ => ⟨fun _ => sp_goOnE (iI_ne0 hc0) (her c p hc0 (by unfold pN; rw [hc]) _ _ _ _ _), fun z => absurd rfl z⟩, fun z => absurd z (iI_ne0 hc0)⟩
theorem sp_numberE {p1 : Int32} {p2 : Int32} {t_textSize : Int32} {t_next : Int32} {t_start : Int32} {t_token : Int32} {t_value : Int32} {t_errorFound : Int32} {t_errorPlace : Int32} {t_input : Nat → Int32} {Q : Int32 → Int32 → Int32 → Int32 → Int32 → Int32 → Int32 → Prop} (he : t_errorFound ≠ 0) (hQ : ∀ r nx st k v, Q r nx st k v t_errorFound t_errorPlace) : wp_X11_number p1 p2 t_textSize t_next t_start t_token t_value t_errorFound t_errorPlace t_input Q := by
  unfold wp_X11_number
  refine sp_lookE he ?_
  unfold wp_X11_good
  exact ⟨fun _ => ⟨fun _ => sp_goOnE he (hQ _ _ _ _ _), fun z => absurd rfl z⟩, fun z => absurd z he⟩
/-- the number behind a word -/
def pB (n : Nat) (by_ : Nat → Int) (w : List Int32) (g : Int) (t : TK) : Except ER (Nat × TK) := match pW n by_ w t with
  | .ok t2 => pN n by_ g t2
  | .error e => .error e
theorem sp_behindE {p2 : Int32} {p3 : Int32} {t1_bs : List Int32} {t_textSize : Int32} {t_next : Int32} {t_start : Int32} {t_token : Int32} {t_value : Int32} {t_errorFound : Int32} {t_errorPlace : Int32} {t_input : Nat → Int32} {Q : Int32 → Int32 → Int32 → Int32 → Int32 → Int32 → Int32 → Prop} (hw : gW t1_bs) (he : t_errorFound ≠ 0) (hQ : ∀ r nx st k v, Q r nx st k v t_errorFound t_errorPlace) : wp_X11_numberBehind p2 p3 t1_bs t_textSize t_next t_start t_token t_value t_errorFound t_errorPlace t_input Q := by
  unfold wp_X11_numberBehind wp_X11_numberBehind_b13
  exact sp_isWord11e he hw ⟨fun z => absurd rfl z, fun _ => sp_errsE he (sp_goOnE he (sp_numberE he hQ))⟩
theorem sp_behind {n : Nat} {by_ : Nat → Int} {t1_bs : List Int32} {t_value : Int32} {t_errorPlace : Int32} {t_input : Nat → Int32} {Q : Int32 → Int32 → Int32 → Int32 → Int32 → Int32 → Int32 → Prop} (hT : txP n by_ t_input) (hw : gW t1_bs) {t : TK} (hG : TG n t) {g : Int} (hg : -1 ≤ g ∧ g ≤ 999) (hok : ∀ (v : Nat) t2 tv, TG n t2 → rvP n by_ t2 tv → (v : Int) ≤ g → pB n by_ t1_bs g t = .ok (v, t2) → Q (iI (v : Nat)) (iI (t2.2.2.1 : Nat)) (iI (t2.2.1 : Nat)) (iI (t2.1 : Nat)) tv 0 t_errorPlace) (her : ∀ c p, c ≠ 0 ∧ c < 5 → pB n by_ t1_bs g t = .error (c, p) → ∀ r nx st k v, Q r nx st k v (iI (c : Nat)) (iI (p : Nat))) : wp_X11_numberBehind 0 (iI g) t1_bs (iI (n:Nat)) (iI (t.2.2.1:Nat)) (iI (t.2.1:Nat)) (iI (t.1:Nat)) t_value 0 t_errorPlace t_input Q := by
  unfold wp_X11_numberBehind wp_X11_numberBehind_b13
  refine sp_isWord11 hT hw hG ?_
  unfold pB pW at hok her
  by_cases c : isW by_ t t1_bs = true
  · rw [c]
    rw [if_pos c] at hok her
    exact ⟨fun _ => sp_goOn hT hG fun tv htv => sp_number hT (TG_nxt hG) htv hg hok her, fun z => absurd z (by decide)⟩
  · rw [if_neg c] at her
    rw [Bool.not_eq_true] at c
    rw [c]
    exact ⟨fun z => absurd rfl z, fun _ => sp_errs (sp_goOnE (by decide) (sp_numberE (by decide) (her 1 t.2.1 (by omega) rfl)))⟩
theorem sp_semicolonE {t_textSize : Int32} {t_next : Int32} {t_start : Int32} {t_token : Int32} {t_value : Int32} {t_errorFound : Int32} {t_errorPlace : Int32} {t_input : Nat → Int32} {Q : Int32 → Int32 → Int32 → Int32 → Int32 → Int32 → Prop} (he : t_errorFound ≠ 0) (hQ : ∀ nx st k v, Q nx st k v t_errorFound t_errorPlace) : wp_X11_semicolon t_textSize t_next t_start t_token t_value t_errorFound t_errorPlace t_input Q := by
  unfold wp_X11_semicolon wp_X11_semicolon_b29 wp_X11_good
  exact ⟨fun _ => ⟨fun _ => sp_goOnE he (hQ _ _ _ _), fun z => absurd rfl z⟩, fun z => absurd z he⟩
theorem sp_semicolon {n : Nat} {by_ : Nat → Int} {t_value : Int32} {t_errorPlace : Int32} {t_input : Nat → Int32} {Q : Int32 → Int32 → Int32 → Int32 → Int32 → Int32 → Prop} (hT : txP n by_ t_input) {t : TK} (hG : TG n t) (hr : rvP n by_ t t_value) (hok : ∀ t2 tv, TG n t2 → rvP n by_ t2 tv → pE n by_ t = .ok t2 → Q (iI (t2.2.2.1 : Nat)) (iI (t2.2.1 : Nat)) (iI (t2.1 : Nat)) tv 0 t_errorPlace) (her : ∀ c p, c ≠ 0 ∧ c < 5 → pE n by_ t = .error (c, p) → ∀ nx st k v, Q nx st k v (iI (c : Nat)) (iI (p : Nat))) : wp_X11_semicolon (iI (n:Nat)) (iI (t.2.2.1:Nat)) (iI (t.2.1:Nat)) (iI (t.1:Nat)) t_value 0 t_errorPlace t_input Q := by
  have hT2 := hT
  obtain ⟨hn, hb, ht⟩ := hT2
  have hG2 := hG
  obtain ⟨g1, g2, g3, g4, g5, g6⟩ := hG2
  have b := hb t.2.1
  have e3 : (iI (t.1 : Nat) = 3) ↔ t.1 = 3 := by
    rw [iI_lit 3, iI_eq (by omega) (by omega) (by omega) (by omega)]
    omega
  unfold wp_X11_semicolon
  rw [e3]
  unfold wp_X11_good wp_X11_semicolon_b24
  unfold pE at hok her
  refine ⟨fun z => absurd rfl z, fun _ => ⟨fun z => absurd z (by decide), fun _ => ⟨fun c => sp_errs ?_, fun c => ?_⟩⟩⟩
  · unfold wp_X11_semicolon_b29
    exact sp_goOnE (by decide) (her 1 t.2.1 (by omega) (by rw [if_neg (fun z => c z.1)]) _ _ _ _)
  · have e := hr.2 c
    have u : ub n by_ t.2.1 = by_ t.2.1 % 256 := by unfold ub; rw [if_pos (g6 c)]
    rw [u] at e
    subst e
    have e59 : (iI (by_ t.2.1 % 256) = 59) ↔ by_ t.2.1 = 59 := by
      rw [show (59 : Int32) = iI 59 from rfl, iI_eq (by omega) (by omega) (by omega) (by omega)]
      omega
    rw [e59]
    refine ⟨fun d => ?_, fun d => sp_errs ?_⟩
    · unfold wp_X11_semicolon_b29
      exact sp_goOn hT hG fun tv htv => hok _ tv (TG_nxt hG) htv (by rw [if_pos ⟨c, d⟩])
    · unfold wp_X11_semicolon_b29
      exact sp_goOnE (by decide) (her 1 t.2.1 (by omega) (by rw [if_neg (fun z => d z.2)]) _ _ _ _)
