section
variable {n lc pc fw rw fl sw ss sk ba hyc ph : Nat} {t w lg : Nat → Nat} {kn : Nat → Int}
variable {P pa pb pq pd : Nat → Nat} {k : Nat}
variable {x_breakCount x_lineCount x_paragraphCount x_stale : Int32} {a_patterns a_heads a_glyphs a_breakEnd a_breakNext a_breakHyphen a_breakTaken a_wayBefore a_lineFacts : Nat → Int32} {a_wayDemerits a_paragraphDemerits : Nat → Int64}
variable {y_ready y_glyphCount y_breaks y_natural y_spaces y_lineCount y_paragraphs : Int32} {b_patA b_patB b_patC b_patDigits b_glyphs b_glyphOf b_bEnd b_bNext b_bHyphen b_before b_way b_lFrom b_lTo b_lNumber b_lParagraph b_lPage b_lHyphen b_lLast : Nat → Int32} {b_least b_best : Nat → Int64}
/-- a change of settings leaves both desks unset -/
theorem rl_st (C : cf_ok t w lg kn n fw rw fl sw ss sk ba hyc ph) (L : -(k : Int) ≤ (nI lc).toInt ∧ (nI lc).toInt ≤ 8) (R : pt_ok P pc b_patA b_patB b_patC b_patDigits pa pb pq pd) : i_Rel k ((nI n), (nI lc), (nI pc), (nI fw), (nI rw), (nI fl), (nI sw), (nI ss), (nI sk), (nI ba), (nI hyc), (nI ph), x_breakCount, x_lineCount, x_paragraphCount, 1, (gd_tI t), (gd_tI w), (gd_lI lg), (gd_kI kn), (gd_tI P), a_heads, a_glyphs, a_breakEnd, a_breakNext, a_breakHyphen, a_breakTaken, a_wayDemerits, a_wayBefore, a_lineFacts, a_paragraphDemerits) ((nI n), (nI lc), (nI pc), (nI fw), (nI rw), (nI fl), (nI sw), (nI ss), (nI sk), (nI ba), (nI hyc), (nI ph), 0, y_glyphCount, y_breaks, y_natural, y_spaces, y_lineCount, y_paragraphs, (gd_tI t), (gd_tI w), (gd_lI lg), (gd_kI kn), b_patA, b_patB, b_patC, b_patDigits, b_glyphs, b_glyphOf, b_bEnd, b_bNext, b_bHyphen, b_least, b_before, b_way, b_lFrom, b_lTo, b_lNumber, b_lParagraph, b_lPage, b_lHyphen, b_lLast, b_best) :=
  rl_mk ⟨C, L, R, Or.inl ⟨rfl, rfl⟩⟩
theorem rl_ok {j : Nat} (h : rl_B k n lc pc fw rw fl sw ss sk ba hyc ph t w lg kn P pa pb pq pd x_lineCount x_paragraphCount x_stale a_lineFacts a_paragraphDemerits y_ready y_lineCount y_paragraphs b_patA b_patB b_patC b_patDigits b_lFrom b_lTo b_lNumber b_lParagraph b_lPage b_lHyphen b_lLast b_best) (hj : k ≤ j) : i_Rel j ((nI n), (nI lc), (nI pc), (nI fw), (nI rw), (nI fl), (nI sw), (nI ss), (nI sk), (nI ba), (nI hyc), (nI ph), x_breakCount, x_lineCount, x_paragraphCount, x_stale, (gd_tI t), (gd_tI w), (gd_lI lg), (gd_kI kn), (gd_tI P), a_heads, a_glyphs, a_breakEnd, a_breakNext, a_breakHyphen, a_breakTaken, a_wayDemerits, a_wayBefore, a_lineFacts, a_paragraphDemerits) ((nI n), (nI lc), (nI pc), (nI fw), (nI rw), (nI fl), (nI sw), (nI ss), (nI sk), (nI ba), (nI hyc), (nI ph), y_ready, y_glyphCount, y_breaks, y_natural, y_spaces, y_lineCount, y_paragraphs, (gd_tI t), (gd_tI w), (gd_lI lg), (gd_kI kn), b_patA, b_patB, b_patC, b_patDigits, b_glyphs, b_glyphOf, b_bEnd, b_bNext, b_bHyphen, b_least, b_before, b_way, b_lFrom, b_lTo, b_lNumber, b_lParagraph, b_lPage, b_lHyphen, b_lLast, b_best) :=
  rl_mk ⟨h.1, ⟨by have := h.2.1.1; omega, h.2.1.2⟩, h.2.2⟩
end
theorem i_vc_wipe {k : Nat} {u : SX} {v : SY} (I : i_Rel k u v) (hk : k + 5 ≤ 2560) : wpX_wipe (fun r u' => wpY_wipe (fun r' v' => r' = r ∧ i_Rel (k + 5) u' v') v) u := by
  refine rl_elim (Q := fun u v => wpX_wipe (fun r u' => wpY_wipe (fun r' v' => r' = r ∧ i_Rel (k + 5) u' v') v) u) I ?_
  intro n lc pc fw rw fl sw ss sk ba hyc ph t w lg kn P pa pb pq pd x_breakCount x_lineCount x_paragraphCount x_stale a_heads a_glyphs a_breakEnd a_breakNext a_breakHyphen a_breakTaken a_wayDemerits a_wayBefore a_lineFacts a_paragraphDemerits y_ready y_glyphCount y_breaks y_natural y_spaces y_lineCount y_paragraphs b_patA b_patB b_patC b_patDigits b_glyphs b_glyphOf b_bEnd b_bNext b_bHyphen b_least b_before b_way b_lFrom b_lTo b_lNumber b_lParagraph b_lPage b_lHyphen b_lLast b_best ⟨C, L, R, F⟩
  exact ⟨rfl, rl_st (n := 0) ⟨by omega, C.2⟩ ⟨by have := L.1; omega, L.2⟩ R⟩
theorem gd_tup {t : Nat → Nat} {i x : Nat} : upd (gd_tI t) i (nI x) = gd_tI (gd_un t i x) := by
  funext j
  by_cases e : j = i
  · rw [e, pk_us, gd_tI, gd_un, if_pos rfl]
  · rw [pk_un e, gd_tI, gd_tI, gd_un, if_neg e]
theorem i_vc_width {k : Nat} {u : SX} {v : SY} (I : i_Rel k u v) (hk : k + 5 ≤ 2560) (v1 : Int32) (v2 : Int32) : wpX_width (fun r u' => wpY_width (fun r' v' => r' = r ∧ i_Rel (k + 5) u' v') v v1 v2) u v1 v2 := by
  refine rl_elim (Q := fun u v => wpX_width (fun r u' => wpY_width (fun r' v' => r' = r ∧ i_Rel (k + 5) u' v') v v1 v2) u v1 v2) I ?_
  intro n lc pc fw rw fl sw ss sk ba hyc ph t w lg kn P pa pb pq pd x_breakCount x_lineCount x_paragraphCount x_stale a_heads a_glyphs a_breakEnd a_breakNext a_breakHyphen a_breakTaken a_wayDemerits a_wayBefore a_lineFacts a_paragraphDemerits y_ready y_glyphCount y_breaks y_natural y_spaces y_lineCount y_paragraphs b_patA b_patB b_patC b_patDigits b_glyphs b_glyphOf b_bEnd b_bNext b_bHyphen b_least b_before b_way b_lFrom b_lTo b_lNumber b_lParagraph b_lPage b_lHyphen b_lLast b_best B
  have B' : i_Rel (k + 5) ((nI n), (nI lc), (nI pc), (nI fw), (nI rw), (nI fl), (nI sw), (nI ss), (nI sk), (nI ba), (nI hyc), (nI ph), x_breakCount, x_lineCount, x_paragraphCount, x_stale, (gd_tI t), (gd_tI w), (gd_lI lg), (gd_kI kn), (gd_tI P), a_heads, a_glyphs, a_breakEnd, a_breakNext, a_breakHyphen, a_breakTaken, a_wayDemerits, a_wayBefore, a_lineFacts, a_paragraphDemerits) ((nI n), (nI lc), (nI pc), (nI fw), (nI rw), (nI fl), (nI sw), (nI ss), (nI sk), (nI ba), (nI hyc), (nI ph), y_ready, y_glyphCount, y_breaks, y_natural, y_spaces, y_lineCount, y_paragraphs, (gd_tI t), (gd_tI w), (gd_lI lg), (gd_kI kn), b_patA, b_patB, b_patC, b_patDigits, b_glyphs, b_glyphOf, b_bEnd, b_bNext, b_bHyphen, b_least, b_before, b_way, b_lFrom, b_lTo, b_lNumber, b_lParagraph, b_lPage, b_lHyphen, b_lLast, b_best) := rl_ok B (by omega)
  obtain ⟨C, L, R, F⟩ := B
  unfold wpX_width
  have no : ¬ ((0 ≤ v1.toInt ∧ v1.toInt ≤ 9) ∧ (6 ≤ v2.toInt ∧ v2.toInt ≤ 30)) → wpY_width (fun r' v' => r' = 0 ∧ i_Rel (k + 5) ((nI n), (nI lc), (nI pc), (nI fw), (nI rw), (nI fl), (nI sw), (nI ss), (nI sk), (nI ba), (nI hyc), (nI ph), x_breakCount, x_lineCount, x_paragraphCount, x_stale, (gd_tI t), (gd_tI w), (gd_lI lg), (gd_kI kn), (gd_tI P), a_heads, a_glyphs, a_breakEnd, a_breakNext, a_breakHyphen, a_breakTaken, a_wayDemerits, a_wayBefore, a_lineFacts, a_paragraphDemerits) v') ((nI n), (nI lc), (nI pc), (nI fw), (nI rw), (nI fl), (nI sw), (nI ss), (nI sk), (nI ba), (nI hyc), (nI ph), y_ready, y_glyphCount, y_breaks, y_natural, y_spaces, y_lineCount, y_paragraphs, (gd_tI t), (gd_tI w), (gd_lI lg), (gd_kI kn), b_patA, b_patB, b_patC, b_patDigits, b_glyphs, b_glyphOf, b_bEnd, b_bNext, b_bHyphen, b_least, b_before, b_way, b_lFrom, b_lTo, b_lNumber, b_lParagraph, b_lPage, b_lHyphen, b_lLast, b_best) v1 v2 := by
    intro h
    unfold wpY_width
    refine wy_let (gd_bt (fun z => ⟨rfl, B'⟩) (fun z => ?_))
    have z := of_decide_eq_true z
    exact wi_lt 6 (fun y => ⟨rfl, B'⟩) (fun y => wi_le 30 (fun y2 => absurd ⟨z, y, y2⟩ h) (fun y2 => ⟨rfl, B'⟩))
  refine wx_in 0 9 (gd_bt (fun z => no (fun h => (of_decide_eq_false z) h.1)) (fun z => ?_))
  refine wx_in 6 30 (gd_bt (fun z2 => no (fun h => (of_decide_eq_false z2) h.2)) (fun z2 => ?_))
  have z := of_decide_eq_true z
  have z2 := of_decide_eq_true z2
  have e1 := wi_n z.1
  have e2 := wi_n (show 0 ≤ v2.toInt by omega)
  have hup : ∀ a : Nat → Int32, a = gd_tI w → upd a v1.toNatClampNeg v2 = gd_tI (gd_un w v1.toInt.toNat v2.toInt.toNat) := by
    intro a ha
    rw [ha, ← gd_tup, ← e2]
    congr 1
  refine ⟨pk_in v1.toInt.toNat 10 (by omega) e1, nm_r (hup _ rfl) ?_⟩
  unfold wpY_width
  refine wy_let (gd_bt (fun y => absurd z (of_decide_eq_false y)) (fun y => ?_))
  refine wi_lt 6 (fun y2 => absurd y2 (by omega)) (fun y2 => wi_le 30 (fun y3 => ⟨pk_in v1.toInt.toNat 10 (by omega) e1, nm_r (hup _ rfl) ⟨rfl, ?_⟩⟩) (fun y3 => absurd y3 (by omega)))
  refine rl_st ⟨C.1, C.2.1, fun i => ?_, C.2.2.2⟩ ⟨by have := L.1; omega, L.2⟩ R
  rw [gd_un]
  split
  · omega
  · exact C.2.2.1 i
