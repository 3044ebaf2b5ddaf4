/-! THE REFERENCE'S STATEMENTS -/
/-- the draft row: s, and naught behind its items -/
def nzP (s : Nat → Nat) (row : Nat → Int32) : Prop := neP s row ∧ ∀ i, 6 + 5 * s 0 ≤ i → i < 66 → row i = 0
theorem sp_parseFirst {n : Nat} {by_ : Nat → Int} {t_value : Int32} {t_errorPlace : Int32} {t_input : Nat → Int32} {t_row : Nat → Int32} {Q : Int32 → Int32 → Int32 → Int32 → Int32 → Int32 → (Nat → Int32) → Prop} (hT : txP n by_ t_input) {t : TK} (hG : TG n t) (hok : ∀ c l t2 tv, TG n t2 → rvP n by_ t2 tv → c ≤ 999 → l ≤ 12 → pzFb n by_ t = .ok ((c, l), t2) → Q (iI (t2.2.2.1 : Nat)) (iI (t2.2.1 : Nat)) (iI (t2.1 : Nat)) tv 0 t_errorPlace (upd (upd t_row 1 (iI (c : Nat))) 2 (iI (l : Nat)))) (her : ∀ c p, c ≠ 0 ∧ c < 5 → pzFb n by_ t = .error (c, p) → ∀ nx st k v row, Q nx st k v (iI (c : Nat)) (iI (p : Nat)) row) : wp_X11_parseFirst (iI (n:Nat)) (iI (t.2.2.1:Nat)) (iI (t.2.1:Nat)) (iI (t.1:Nat)) t_value 0 t_errorPlace t_input t_row Q := by
  have i1 : vp_in 1 66 := by rw [vp_in_iff]; decide
  have i2 : vp_in 2 66 := by rw [vp_in_iff]; decide
  unfold wp_X11_parseFirst
  rw [show (999 : Int32) = iI 999 from rfl, show (12 : Int32) = iI 12 from rfl]
  refine sp_behind hT gCap hG (by omega) (fun a t2 tv G2 R2 l2 h2 => ⟨i1, ?_⟩) (fun c p hc h2 r nx st k v => ⟨i1, sp_behindE gLim (iI_ne0 hc) fun r2 nx2 st2 k2 v2 => ⟨i2, her c p hc (by simp only [pzFb, h2]) _ _ _ _ _⟩⟩)
  exact sp_behind hT gLim G2 (by omega) (fun b t3 tv3 G3 R3 l3 h3 => ⟨i2, hok a b t3 tv3 G3 R3 (by omega) (by omega) (by simp only [pzFb, h2, h3])⟩) (fun c p hc h3 r nx st k v => ⟨i2, her c p hc (by simp only [pzFb, h2, h3]) _ _ _ _ _⟩)
theorem nzP_adS {s : Nat → Nat} {row : Nat → Int32} (hN : nzP s row) (h : s 0 < 12) {a b c : Nat} : nzP (adS s a b c) (upd (upd (upd (upd row (6 + 5 * s 0 + 0) (iI (a : Nat))) (6 + 5 * s 0 + 1) (iI (b : Nat))) (6 + 5 * s 0 + 2) (iI (c : Nat))) 0 (iI ((s 0 + 1 : Nat) : Int))) := by
  obtain ⟨⟨h1, h2⟩, h3⟩ := hN
  refine ⟨⟨fun k hk => ?_, fun k w hk hw => ?_⟩, fun i hi hi2 => ?_⟩
  · by_cases e : k = 0
    · subst e; rw [pk_us, adS_0]
    · rw [pk_un (by omega), pk_un (by omega), pk_un (by omega), pk_un (by omega), adS_low e (by omega)]
      exact h1 k hk
  · rw [adS_0] at hk
    rw [pk_un (by omega)]
    by_cases e : k = s 0
    · subst e
      rw [adS_new hw]
      by_cases e2 : w = 2
      · subst e2; rw [pk_us]; rfl
      · rw [pk_un (by omega)]
        by_cases e1 : w = 1
        · subst e1; rw [pk_us]; rfl
        · rw [pk_un (by omega)]
          by_cases e0 : w = 0
          · subst e0; rw [pk_us]; rfl
          · rw [pk_un (by omega), if_neg e0, if_neg e1, if_neg e2, h3 _ (by omega) (by omega)]
            exact iI_lit 0
    · rw [pk_un (by omega), pk_un (by omega), pk_un (by omega), adS_low (by omega) (by omega)]
      exact h2 k w (by omega) hw
  · rw [adS_0] at hi
    rw [pk_un (by omega), pk_un (by omega), pk_un (by omega), pk_un (by omega)]
    exact h3 i (by omega) hi2
theorem sp_itemBE {t_textSize : Int32} {t_input : Nat → Int32} {Q : Int32 → Int32 → Int32 → Int32 → Int32 → Int32 → (Nat → Int32) → Prop} {x1 : Int32} {t_next : Int32} {t_start : Int32} {t_token : Int32} {t_value : Int32} {t_errorFound : Int32} {t_errorPlace : Int32} {t_row : Nat → Int32} (he : t_errorFound ≠ 0) (hQ : ∀ nx st k v, Q nx st k v t_errorFound t_errorPlace t_row) : wp_X11_parseItem_b16 t_textSize t_input Q x1 t_next t_start t_token t_value t_errorFound t_errorPlace t_row := by
  unfold wp_X11_parseItem_b16
  refine sp_goOnE he (sp_behindE gWe he fun r nx st k v => sp_behindE gGa he fun r2 nx2 st2 k2 v2 => sp_behindE gJo he fun r3 nx3 st3 k3 v3 => ?_)
  unfold wp_X11_good
  exact ⟨fun _ => ⟨fun z => absurd rfl z, fun _ => hQ _ _ _ _⟩, fun z => absurd z he⟩
theorem sp_parseItem {n : Nat} {by_ : Nat → Int} {t_value : Int32} {t_errorPlace : Int32} {t_row : Nat → Int32} {t_input : Nat → Int32} {Q : Int32 → Int32 → Int32 → Int32 → Int32 → Int32 → (Nat → Int32) → Prop} (hT : txP n by_ t_input) {t : TK} (hG : TG n t) {s : Nat → Nat} (hW : WF s) (hN : nzP s t_row) (hok : ∀ t2 s2 tv row, TG n t2 → rvP n by_ t2 tv → WF s2 → nzP s2 row → pzIt n by_ t s = .ok (t2, s2) → Q (iI (t2.2.2.1 : Nat)) (iI (t2.2.1 : Nat)) (iI (t2.1 : Nat)) tv 0 t_errorPlace row) (her : ∀ c p, c ≠ 0 ∧ c < 5 → pzIt n by_ t s = .error (c, p) → ∀ nx st k v row, Q nx st k v (iI (c : Nat)) (iI (p : Nat)) row) : wp_X11_parseItem (iI (n:Nat)) (iI (t.2.2.1:Nat)) (iI (t.2.1:Nat)) (iI (t.1:Nat)) t_value 0 t_errorPlace t_row t_input Q := by
  have h12 := hW.1
  have i0 : vp_in 0 66 := by rw [vp_in_iff]; decide
  have e0 : (0 : Int32).toNatClampNeg = 0 := by decide
  unfold wp_X11_parseItem
  refine sp_many hN.1 ?_
  have ei : (iI (s 0 : Nat) = 12) ↔ s 0 = 12 := by
    rw [iI_lit 12, iI_eq (by omega) (by omega) (by omega) (by omega)]
    omega
  rw [ei]
  refine ⟨fun c => ?_, fun c => sp_errs ?_⟩
  · have h0 : s 0 < 12 := by omega
    unfold wp_X11_parseItem_b16
    rw [show (99 : Int32) = iI 99 from rfl]
    refine sp_goOn hT hG fun tv0 R0 => ?_
    refine sp_behind hT gWe (TG_nxt hG) (by omega) (fun a t2 tv G2 R2 l2 h2 => ?_) (fun c p hc h2 r nx st k v => sp_behindE gGa (iI_ne0 hc) fun r2 nx2 st2 k2 v2 => sp_behindE gJo (iI_ne0 hc) fun r3 nx3 st3 k3 v3 => ?_)
    · refine sp_behind hT gGa G2 (by omega) (fun b t3 tv3 G3 R3 l3 h3 => ?_) (fun c p hc h3 r nx st k v => sp_behindE gJo (iI_ne0 hc) fun r3 nx3 st3 k3 v3 => ?_)
      · refine sp_behind hT gJo G3 (by omega) (fun d t4 tv4 G4 R4 l4 h4 => ?_) (fun c p hc h4 r nx st k v => ?_)
        · unfold wp_X11_good
          refine ⟨fun z => absurd rfl z, fun _ => ⟨fun _ => ?_, fun z => absurd z (by decide)⟩⟩
          rw [show (0 : Int32) = iI (0 : Nat) from rfl, show (1 : Int32) = iI (1 : Nat) from rfl, show (2 : Int32) = iI (2 : Nat) from rfl]
          refine sp_put11 (by omega) (by omega) (sp_put11 (by omega) (by omega) (sp_put11 (by omega) (by omega) ⟨i0, i0, ?_⟩))
          have ans := hok t4 _ tv4 _ G4 R4 (WF_adS hW h0 (a := a) (b := b) (c := d) (by omega) (by omega) (by omega)) (nzP_adS hN h0) (by simp only [pzIt, if_pos h0, h2, h3, h4])
          have er : upd (upd (upd t_row (6 + 5 * s 0 + 0) (iI (a : Nat))) (6 + 5 * s 0 + 1) (iI (b : Nat))) (6 + 5 * s 0 + 2) (iI (d : Nat)) 0 = iI (s 0 : Nat) := by
            rw [pk_un (by omega), pk_un (by omega), pk_un (by omega)]
            exact hN.1.1 0 (by omega)
          rw [show (iI (0 : Nat)).toNatClampNeg = 0 from e0, er, show iI (s 0 : Nat) + iI (1 : Nat) = iI ((s 0 + 1 : Nat) : Int) from iI_s1 (s 0)]
          exact ans
        · unfold wp_X11_good
          exact ⟨fun _ => ⟨fun z => absurd rfl z, fun _ => her c p hc (by simp only [pzIt, if_pos h0, h2, h3, h4]) _ _ _ _ _⟩, fun z => absurd z (iI_ne0 hc)⟩
      · unfold wp_X11_good
        exact ⟨fun _ => ⟨fun z => absurd rfl z, fun _ => her c p hc (by simp only [pzIt, if_pos h0, h2, h3]) _ _ _ _ _⟩, fun z => absurd z (iI_ne0 hc)⟩
    · unfold wp_X11_good
      exact ⟨fun _ => ⟨fun z => absurd rfl z, fun _ => her c p hc (by simp only [pzIt, if_pos h0, h2]) _ _ _ _ _⟩, fun z => absurd z (iI_ne0 hc)⟩
  · exact sp_itemBE (by decide) fun nx st k v => her 4 t.2.1 (by omega) (by simp only [pzIt, if_neg (show ¬ s 0 < 12 by omega)]) _ _ _ _ _
theorem iI_tbT {v k : Nat} (hk : k < 31) : iI (v : Nat) ||| (1 <<< (iI (k : Nat) &&& 31)) = iI ((tb v k true : Nat) : Int) := by
  rw [iI_shl1 k hk, iI_or]
  rfl
theorem sp_pairBE {t_textSize : Int32} {t_input : Nat → Int32} {Q : Int32 → Int32 → Int32 → Int32 → Int32 → Int32 → (Nat → Int32) → Prop} {x1 : Int32} {x2 : Int32} {t_next : Int32} {t_start : Int32} {t_token : Int32} {t_value : Int32} {t_errorFound : Int32} {t_errorPlace : Int32} {t_row : Nat → Int32} (he : t_errorFound ≠ 0) (hQ : ∀ nx st k v, Q nx st k v t_errorFound t_errorPlace t_row) : wp_X11_parsePair_b63 t_textSize t_input Q x1 x2 t_next t_start t_token t_value t_errorFound t_errorPlace t_row := by
  unfold wp_X11_parsePair_b63 wp_X11_good
  exact ⟨fun _ => ⟨fun _ => sp_goOnE he ⟨fun _ => ⟨fun z => absurd rfl z, fun _ => hQ _ _ _ _⟩, fun z => absurd z he⟩, fun z => absurd rfl z⟩, fun z => absurd z he⟩
theorem sp_oneBE {t_textSize : Int32} {t_input : Nat → Int32} {Q : Int32 → Int32 → Int32 → Int32 → Int32 → Int32 → (Nat → Int32) → Prop} {x1 : Int32} {t_next : Int32} {t_start : Int32} {t_token : Int32} {t_value : Int32} {t_errorFound : Int32} {t_errorPlace : Int32} {t_row : Nat → Int32} (he : t_errorFound ≠ 0) (hQ : ∀ nx st k v, Q nx st k v t_errorFound t_errorPlace t_row) : wp_X11_parseOne_b43 t_textSize t_input Q x1 t_next t_start t_token t_value t_errorFound t_errorPlace t_row := by
  unfold wp_X11_parseOne_b43 wp_X11_good
  exact ⟨fun _ => ⟨fun _ => sp_goOnE he ⟨fun _ => ⟨fun _ => hQ _ _ _ _, fun z => absurd rfl z⟩, fun z => absurd z he⟩, fun z => absurd rfl z⟩, fun z => absurd z he⟩
