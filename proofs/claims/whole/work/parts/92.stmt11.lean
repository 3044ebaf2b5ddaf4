/-! THE REFERENCE'S PAIRS AND SINGLES, AND ITS STATEMENT -/
theorem nzP_row {s : Nat → Nat} {row : Nat → Int32} (hN : nzP s row) {k w v : Nat} (hk : k < s 0) (hw : w < 5) : nzP (su s (6 + 5 * k + w) v) (upd row (6 + 5 * k + w) (iI v)) := by
  refine ⟨neP_row hN.1 hw, fun i hi hi2 => ?_⟩
  rw [su_ne (by omega)] at hi
  rw [pk_un (by omega)]
  exact hN.2 i hi hi2
theorem nzP_c {s : Nat → Nat} {row : Nat → Int32} (hN : nzP s row) {k v : Nat} (hk : 0 < k) (hk2 : k < 6) : nzP (su s k v) (upd row k (iI v)) := by
  refine ⟨neP_su hN.1 (by omega) (by omega) rfl, fun i hi hi2 => ?_⟩
  rw [su_ne (by omega)] at hi
  rw [pk_un (by omega)]
  exact hN.2 i hi hi2
theorem sp_parsePair {n : Nat} {by_ : Nat → Int} {t_value : Int32} {t_errorPlace : Int32} {t_input : Nat → Int32} {t_row : Nat → Int32} {Q : Int32 → Int32 → Int32 → Int32 → Int32 → Int32 → (Nat → Int32) → Prop} (hT : txP n by_ t_input) {t : TK} (hG : TG n t) {s : Nat → Nat} (hW : WF s) (hN : nzP s t_row) {w : Nat} (hw : w = 3 ∨ w = 4) (hok : ∀ t2 s2 tv row, TG n t2 → rvP n by_ t2 tv → WF s2 → nzP s2 row → pzPr n by_ w t s = .ok (t2, s2) → Q (iI (t2.2.2.1 : Nat)) (iI (t2.2.1 : Nat)) (iI (t2.1 : Nat)) tv 0 t_errorPlace row) (her : ∀ c p, c ≠ 0 ∧ c < 5 → pzPr n by_ w t s = .error (c, p) → ∀ nx st k v row, Q nx st k v (iI (c : Nat)) (iI (p : Nat)) row) : wp_X11_parsePair (iI (w:Nat)) (iI (n:Nat)) (iI (t.2.2.1:Nat)) (iI (t.2.1:Nat)) (iI (t.1:Nat)) t_value 0 t_errorPlace t_input t_row Q := by
  have h12 := hW.1
  have hp := wf_pow hW
  unfold wp_X11_parsePair
  refine sp_goOn hT hG fun tv0 R0 => sp_many hN.1 ?_
  rw [iI_sub1]
  refine sp_number hT (TG_nxt hG) R0 (by omega) (fun a t2 tv G2 R2 l2 h2 => sp_many hN.1 ?_) (fun c p hc h2 r nx st k v => sp_many hN.1 (sp_lookE (iI_ne0 hc) ?_))
  · rw [iI_sub1]
    refine sp_look (by_ := by_) hT.1 G2 R2 (by omega) (fun b k2 kv kg hv h3 => ?_) (fun c p hc h3 => ?_)
    · subst hv
      have wa := (hW.2.2.2.2.2.2 a (by omega)).2.2.2
      have wab : s (6 + 5 * a + w) < 2 ^ s 0 := by rcases hw with e | e <;> subst e <;> omega
      have e58 : (b = a ∨ (s (6 + 5 * a + w)).testBit b = true) → wp_X11_parsePair_b58 (iI (n : Nat)) t_input Q (iI (w : Nat)) (iI (a : Nat)) (iI (t2.2.2.1 : Nat)) (iI (t2.2.1 : Nat)) (iI (t2.1 : Nat)) (iI (b : Nat)) 0 t_errorPlace t_row := by
        intro hc
        unfold wp_X11_parsePair_b58
        exact sp_errs (sp_pairBE (by decide) fun nx st k v => her 3 t2.2.1 (by omega) (by simp only [pzPr, h2, h3, if_pos hc]) _ _ _ _ _)
      unfold wp_X11_good
      refine ⟨fun z => absurd rfl z, fun _ => ⟨fun z => absurd z (by decide), fun _ => ?_⟩⟩
      rw [iI_inj4 (by omega) (by omega)]
      refine ⟨fun c => e58 (Or.inl c), fun c => sp_ofItem hW hN.1 (by omega) (by omega) (sp_has (by omega) (by omega) ?_)⟩
      by_cases d : (s (6 + 5 * a + w)).testBit b = true
      · rw [if_pos d]
        exact ⟨fun z => absurd z (by decide), fun _ => e58 (Or.inr d)⟩
      · rw [if_neg d]
        refine ⟨fun _ => ?_, fun z => absurd rfl z⟩
        have hc : ¬ (b = a ∨ (s (6 + 5 * a + w)).testBit b = true) := fun z => z.elim c d
        unfold wp_X11_parsePair_b63 wp_X11_good
        refine ⟨fun z => absurd rfl z, fun _ => ⟨fun z => absurd z (by decide), fun _ => sp_goOn hT G2 fun tv4 R4 => ⟨fun z => absurd rfl z, fun _ => ⟨fun _ => ?_, fun z => absurd z (by decide)⟩⟩⟩⟩
        refine sp_ofItem hW hN.1 (by omega) (by omega) (sp_put11 (by omega) (by omega) ?_)
        rw [iI_tbT (by omega)]
        have ew : (iI (w : Nat) = 3) ↔ w = 3 := by
          rw [iI_lit 3, iI_eq (by omega) (by omega) (by omega) (by omega)]
          omega
        rw [ew]
        have W1 : WF (su s (6 + 5 * a + w) (tb (s (6 + 5 * a + w)) b true)) := WF_row hW (Or.inr ⟨by omega, by omega, tb_lt wab (by omega)⟩)
        have N1 := nzP_row hN (k := a) (w := w) (v := tb (s (6 + 5 * a + w)) b true) (by omega) (by omega)
        have ans := fun s2 row W2 N2 (e3 : pzS w a b s = s2) => hok _ s2 tv4 row (TG_nxt G2) R4 W2 N2 (by simp only [pzPr, h2, h3, if_neg hc, e3])
        refine ⟨fun y => ans _ _ W1 N1 (if_neg y), fun y => ?_⟩
        subst y
        refine sp_ofItemR (by omega) (by omega) ?_
        rw [pk_un (by omega), hN.1.2 b 3 (by omega) (by omega)]
        refine sp_put11 (by omega) (by omega) ?_
        rw [iI_tbT (by omega)]
        have e00 : su s (6 + 5 * a + 3) (tb (s (6 + 5 * a + 3)) b true) 0 = s 0 := su_ne (by omega)
        have wb := (hW.2.2.2.2.2.2 b (by omega)).2.2.2.1
        exact ans (barS s a b true) _ (WF_row W1 (Or.inr ⟨by omega, by omega, by rw [e00]; exact tb_lt wb (by omega)⟩)) (nzP_row N1 (k := b) (w := 3) (by rw [e00]; omega) (by omega)) (if_pos rfl)
    · unfold wp_X11_good
      exact ⟨fun _ => ⟨fun _ => sp_pairBE (iI_ne0 hc) fun nx st k v => her c p hc (by simp only [pzPr, h2, h3]) _ _ _ _ _, fun z => absurd rfl z⟩, fun z => absurd z (iI_ne0 hc)⟩
  · unfold wp_X11_good
    exact ⟨fun _ => ⟨fun _ => sp_pairBE (iI_ne0 hc) fun nx st k v => her c p hc (by simp only [pzPr, h2]) _ _ _ _ _, fun z => absurd rfl z⟩, fun z => absurd z (iI_ne0 hc)⟩
theorem sp_parseOne {n : Nat} {by_ : Nat → Int} {t_value : Int32} {t_errorPlace : Int32} {t_input : Nat → Int32} {t_row : Nat → Int32} {Q : Int32 → Int32 → Int32 → Int32 → Int32 → Int32 → (Nat → Int32) → Prop} (hT : txP n by_ t_input) {t : TK} (hG : TG n t) {s : Nat → Nat} (hW : WF s) (hN : nzP s t_row) {w : Nat} (hw : w = 3 ∨ w = 4) (hok : ∀ t2 s2 tv row, TG n t2 → rvP n by_ t2 tv → WF s2 → nzP s2 row → pzOn n by_ w t s = .ok (t2, s2) → Q (iI (t2.2.2.1 : Nat)) (iI (t2.2.1 : Nat)) (iI (t2.1 : Nat)) tv 0 t_errorPlace row) (her : ∀ c p, c ≠ 0 ∧ c < 5 → pzOn n by_ w t s = .error (c, p) → ∀ nx st k v row, Q nx st k v (iI (c : Nat)) (iI (p : Nat)) row) : wp_X11_parseOne (iI (w:Nat)) (iI (n:Nat)) (iI (t.2.2.1:Nat)) (iI (t.2.1:Nat)) (iI (t.1:Nat)) t_value 0 t_errorPlace t_input t_row Q := by
  have h12 := hW.1
  have hp := wf_pow hW
  have ww : s w < 2 ^ s 0 := by
    have a := hW.2.2.2.1
    have b := hW.2.2.2.2.1
    rcases hw with e | e <;> subst e <;> omega
  have iw : vp_in (iI (w : Nat)) 66 := in_lit (by omega) (by omega)
  unfold wp_X11_parseOne
  refine sp_goOn hT hG fun tv0 R0 => sp_many hN.1 ?_
  rw [iI_sub1]
  refine sp_look (by_ := by_) hT.1 (TG_nxt hG) R0 (by omega) (fun a k2 kv kg hv h3 => ?_) (fun c p hc h3 => ?_)
  · subst hv
    unfold wp_X11_good
    refine ⟨fun z => absurd rfl z, fun _ => ⟨fun z => absurd z (by decide), fun _ => ⟨iw, ?_⟩⟩⟩
    rw [iI_clN (by omega), hN.1.1 w (by omega)]
    refine sp_has (by omega) (by omega) ?_
    by_cases d : (s w).testBit a = true
    · rw [if_pos d]
      exact ⟨fun z => absurd z (by decide), fun _ => sp_errs (sp_oneBE (by decide) fun nx st k v => her 3 _ (by omega) (by simp only [pzOn, h3, if_pos d]) _ _ _ _ _)⟩
    · rw [if_neg d]
      refine ⟨fun _ => ?_, fun z => absurd rfl z⟩
      unfold wp_X11_parseOne_b43 wp_X11_good
      refine ⟨fun z => absurd rfl z, fun _ => ⟨fun z => absurd z (by decide), fun _ => sp_goOn hT (TG_nxt hG) fun tv4 R4 => ⟨fun z => absurd rfl z, fun _ => ⟨fun z => absurd z (by decide), fun _ => ⟨iw, iw, ?_⟩⟩⟩⟩⟩
      rw [iI_clN (by omega), hN.1.1 w (by omega), iI_tbT (by omega)]
      have W1 : WF (su s w (tb (s w) a true)) := WF_c hW (by
        have := tb_lt (on := true) ww (show a < s 0 by omega)
        rcases hw with e | e <;> subst e <;> omega)
      exact hok _ _ tv4 _ (TG_nxt (TG_nxt hG)) R4 W1 (nzP_c hN (by omega) (by omega)) (by simp only [pzOn, h3, if_neg d])
  · unfold wp_X11_good
    exact ⟨fun _ => ⟨fun _ => sp_oneBE (iI_ne0 hc) fun nx st k v => her c p hc (by simp only [pzOn, h3]) _ _ _ _ _, fun z => absurd rfl z⟩, fun z => absurd z (iI_ne0 hc)⟩
