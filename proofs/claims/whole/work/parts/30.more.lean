theorem wi_c {x : Int32} {c d : Int} (h : c ≤ x.toInt ∧ x.toInt ≤ d) (h0 : 0 ≤ c) : ∃ a : Nat, x = nI a ∧ c ≤ a ∧ (a : Int) ≤ d ∧ a < 2 ^ 31 := by
  have := x.toInt_lt
  exact ⟨x.toInt.toNat, wi_n (by omega), by omega, by omega, by omega⟩
theorem wi_any (x : Int32) : ∃ m : Nat, x = nI m := by
  refine ⟨x.toBitVec.toNat, ?_⟩
  apply Int32.toBitVec_inj.mp
  apply BitVec.eq_of_toNat_eq
  show _ = (BitVec.ofNat 32 _).toNat
  rw [BitVec.toNat_ofNat]
  exact (Nat.mod_eq_of_lt x.toBitVec.isLt).symm
def gd_uk (f : Nat → Int) (k : Nat) (x : Int) : Nat → Int := fun j => if j = k then x else f j
theorem gd_kup {kn : Nat → Int} {i : Nat} {x : Int32} : upd (gd_kI kn) i x = gd_kI (gd_uk kn i x.toInt) := by
  funext j
  by_cases e : j = i
  · rw [e, pk_us, gd_kI, gd_uk, if_pos rfl]; exact wi_z
  · rw [pk_un e, gd_kI, gd_kI, gd_uk, if_neg e]
theorem i_vc_kern {k : Nat} {u : SX} {v : SY} (I : i_Rel k u v) (hk : k + 5 ≤ 2560) (v1 : Int32) (v2 : Int32) (v3 : Int32) : wpX_kern (fun r u' => wpY_kern (fun r' v' => r' = r ∧ i_Rel (k + 5) u' v') v v1 v2 v3) u v1 v2 v3 := by
  refine rl_elim (Q := fun u v => wpX_kern (fun r u' => wpY_kern (fun r' v' => r' = r ∧ i_Rel (k + 5) u' v') v v1 v2 v3) u v1 v2 v3) I ?_
  intro n lc pc fw rw fl sw ss sk ba hyc ph t w lg kn P pa pb pq pd x_breakCount x_lineCount x_paragraphCount x_stale a_heads a_glyphs a_breakEnd a_breakNext a_breakHyphen a_breakTaken a_wayDemerits a_wayBefore a_lineFacts a_paragraphDemerits y_ready y_glyphCount y_breaks y_natural y_spaces y_lineCount y_paragraphs b_patA b_patB b_patC b_patDigits b_glyphs b_glyphOf b_bEnd b_bNext b_bHyphen b_least b_before b_way b_lFrom b_lTo b_lNumber b_lParagraph b_lPage b_lHyphen b_lLast b_best B
  have B' : i_Rel (k + 5) ((nI n), (nI lc), (nI pc), (nI fw), (nI rw), (nI fl), (nI sw), (nI ss), (nI sk), (nI ba), (nI hyc), (nI ph), x_breakCount, x_lineCount, x_paragraphCount, x_stale, (gd_tI t), (gd_tI w), (gd_lI lg), (gd_kI kn), (gd_tI P), a_heads, a_glyphs, a_breakEnd, a_breakNext, a_breakHyphen, a_breakTaken, a_wayDemerits, a_wayBefore, a_lineFacts, a_paragraphDemerits) ((nI n), (nI lc), (nI pc), (nI fw), (nI rw), (nI fl), (nI sw), (nI ss), (nI sk), (nI ba), (nI hyc), (nI ph), y_ready, y_glyphCount, y_breaks, y_natural, y_spaces, y_lineCount, y_paragraphs, (gd_tI t), (gd_tI w), (gd_lI lg), (gd_kI kn), b_patA, b_patB, b_patC, b_patDigits, b_glyphs, b_glyphOf, b_bEnd, b_bNext, b_bHyphen, b_least, b_before, b_way, b_lFrom, b_lTo, b_lNumber, b_lParagraph, b_lPage, b_lHyphen, b_lLast, b_best) := rl_ok B (by omega)
  obtain ⟨C, L, R, F⟩ := B
  unfold wpX_kern
  have no : ¬ ((0 ≤ v1.toInt ∧ v1.toInt ≤ 9 ∧ 0 ≤ v2.toInt ∧ v2.toInt ≤ 9) ∧ (-5 ≤ v3.toInt ∧ v3.toInt ≤ 5)) → wpY_kern (fun r' v' => r' = 0 ∧ i_Rel (k + 5) ((nI n), (nI lc), (nI pc), (nI fw), (nI rw), (nI fl), (nI sw), (nI ss), (nI sk), (nI ba), (nI hyc), (nI ph), x_breakCount, x_lineCount, x_paragraphCount, x_stale, (gd_tI t), (gd_tI w), (gd_lI lg), (gd_kI kn), (gd_tI P), a_heads, a_glyphs, a_breakEnd, a_breakNext, a_breakHyphen, a_breakTaken, a_wayDemerits, a_wayBefore, a_lineFacts, a_paragraphDemerits) v') ((nI n), (nI lc), (nI pc), (nI fw), (nI rw), (nI fl), (nI sw), (nI ss), (nI sk), (nI ba), (nI hyc), (nI ph), y_ready, y_glyphCount, y_breaks, y_natural, y_spaces, y_lineCount, y_paragraphs, (gd_tI t), (gd_tI w), (gd_lI lg), (gd_kI kn), b_patA, b_patB, b_patC, b_patDigits, b_glyphs, b_glyphOf, b_bEnd, b_bNext, b_bHyphen, b_least, b_before, b_way, b_lFrom, b_lTo, b_lNumber, b_lParagraph, b_lPage, b_lHyphen, b_lLast, b_best) v1 v2 v3 := by
    intro h
    unfold wpY_kern
    refine wy_let (gd_bt (fun z => ⟨rfl, B'⟩) (fun z => wy_let (gd_bt (fun z2 => ⟨rfl, B'⟩) (fun z2 => ?_))))
    have z := of_decide_eq_true z
    have z2 := of_decide_eq_true z2
    exact wi_lt (-5) (fun y => ⟨rfl, B'⟩) (fun y => wi_le 5 (fun y2 => absurd ⟨⟨z.1, z.2, z2⟩, y, y2⟩ h) (fun y2 => ⟨rfl, B'⟩))
  refine wx_pair (gd_bt (fun z => no (fun h => (of_decide_eq_false z) h.1)) (fun z => ?_))
  refine wx_in (-5) 5 (gd_bt (fun z2 => no (fun h => (of_decide_eq_false z2) h.2)) (fun z2 => ?_))
  have z := of_decide_eq_true z
  have z2 := of_decide_eq_true z2
  obtain ⟨a, rfl, a1, a2, a3⟩ := wi_c ⟨z.1, z.2.1⟩ (Int.le_refl 0)
  obtain ⟨b, rfl, b1, b2, b3⟩ := wi_c z.2.2 (Int.le_refl 0)
  have ix : nI a * 10 + nI b = nI (10 * a + b) := by rw [show (10 : Int32) = nI 10 from rfl, pk_mul, nI_add, Nat.mul_comm]
  have iy : 10 * nI a + nI b = nI (10 * a + b) := by rw [show (10 : Int32) = nI 10 from rfl, pk_mul, nI_add]
  refine ⟨pk_in (10 * a + b) 100 (by omega) ix, nm_r (e' := gd_kI (gd_uk kn (10 * a + b) v3.toInt)) (by rw [ix, nI_clamp (by omega), gd_kup]) ?_⟩
  unfold wpY_kern
  refine wy_let (gd_bt (fun y => absurd ⟨z.1, z.2.1⟩ (of_decide_eq_false y)) (fun y => wy_let (gd_bt (fun y => absurd z.2.2 (of_decide_eq_false y)) (fun y => ?_))))
  refine wi_lt (-5) (fun y2 => absurd y2 (by omega)) (fun y2 => wi_le 5 (fun y3 => ⟨pk_in (10 * a + b) 100 (by omega) iy, nm_r (e' := gd_kI (gd_uk kn (10 * a + b) v3.toInt)) (by rw [iy, nI_clamp (by omega), gd_kup]) ⟨rfl, ?_⟩⟩) (fun y3 => absurd y3 (by omega)))
  refine rl_st ⟨C.1, C.2.1, C.2.2.1, fun i => ?_, C.2.2.2.2⟩ ⟨by have := L.1; omega, L.2⟩ R
  rw [gd_uk]
  split
  · exact z2
  · exact C.2.2.2.1 i
theorem i_vc_measure {k : Nat} {u : SX} {v : SY} (I : i_Rel k u v) (hk : k + 5 ≤ 2560) (v1 : Int32) (v2 : Int32) (v3 : Int32) : wpX_measure (fun r u' => wpY_measure (fun r' v' => r' = r ∧ i_Rel (k + 5) u' v') v v1 v2 v3) u v1 v2 v3 := by
  refine rl_elim (Q := fun u v => wpX_measure (fun r u' => wpY_measure (fun r' v' => r' = r ∧ i_Rel (k + 5) u' v') v v1 v2 v3) u v1 v2 v3) I ?_
  intro n lc pc fw rw fl sw ss sk ba hyc ph t w lg kn P pa pb pq pd x_breakCount x_lineCount x_paragraphCount x_stale a_heads a_glyphs a_breakEnd a_breakNext a_breakHyphen a_breakTaken a_wayDemerits a_wayBefore a_lineFacts a_paragraphDemerits y_ready y_glyphCount y_breaks y_natural y_spaces y_lineCount y_paragraphs b_patA b_patB b_patC b_patDigits b_glyphs b_glyphOf b_bEnd b_bNext b_bHyphen b_least b_before b_way b_lFrom b_lTo b_lNumber b_lParagraph b_lPage b_lHyphen b_lLast b_best B
  have B' : i_Rel (k + 5) ((nI n), (nI lc), (nI pc), (nI fw), (nI rw), (nI fl), (nI sw), (nI ss), (nI sk), (nI ba), (nI hyc), (nI ph), x_breakCount, x_lineCount, x_paragraphCount, x_stale, (gd_tI t), (gd_tI w), (gd_lI lg), (gd_kI kn), (gd_tI P), a_heads, a_glyphs, a_breakEnd, a_breakNext, a_breakHyphen, a_breakTaken, a_wayDemerits, a_wayBefore, a_lineFacts, a_paragraphDemerits) ((nI n), (nI lc), (nI pc), (nI fw), (nI rw), (nI fl), (nI sw), (nI ss), (nI sk), (nI ba), (nI hyc), (nI ph), y_ready, y_glyphCount, y_breaks, y_natural, y_spaces, y_lineCount, y_paragraphs, (gd_tI t), (gd_tI w), (gd_lI lg), (gd_kI kn), b_patA, b_patB, b_patC, b_patDigits, b_glyphs, b_glyphOf, b_bEnd, b_bNext, b_bHyphen, b_least, b_before, b_way, b_lFrom, b_lTo, b_lNumber, b_lParagraph, b_lPage, b_lHyphen, b_lLast, b_best) := rl_ok B (by omega)
  obtain ⟨C, L, R, F⟩ := B
  unfold wpX_measure
  have no : ¬ ((20 ≤ v1.toInt ∧ v1.toInt ≤ 300) ∧ (20 ≤ v2.toInt ∧ v2.toInt ≤ 300) ∧ (0 ≤ v3.toInt ∧ v3.toInt ≤ 3)) → wpY_measure (fun r' v' => r' = 0 ∧ i_Rel (k + 5) ((nI n), (nI lc), (nI pc), (nI fw), (nI rw), (nI fl), (nI sw), (nI ss), (nI sk), (nI ba), (nI hyc), (nI ph), x_breakCount, x_lineCount, x_paragraphCount, x_stale, (gd_tI t), (gd_tI w), (gd_lI lg), (gd_kI kn), (gd_tI P), a_heads, a_glyphs, a_breakEnd, a_breakNext, a_breakHyphen, a_breakTaken, a_wayDemerits, a_wayBefore, a_lineFacts, a_paragraphDemerits) v') ((nI n), (nI lc), (nI pc), (nI fw), (nI rw), (nI fl), (nI sw), (nI ss), (nI sk), (nI ba), (nI hyc), (nI ph), y_ready, y_glyphCount, y_breaks, y_natural, y_spaces, y_lineCount, y_paragraphs, (gd_tI t), (gd_tI w), (gd_lI lg), (gd_kI kn), b_patA, b_patB, b_patC, b_patDigits, b_glyphs, b_glyphOf, b_bEnd, b_bNext, b_bHyphen, b_least, b_before, b_way, b_lFrom, b_lTo, b_lNumber, b_lParagraph, b_lPage, b_lHyphen, b_lLast, b_best) v1 v2 v3 := by
    intro h
    exact wi_lt 20 (fun y => ⟨rfl, B'⟩) (fun y1 => wi_gt 300 (fun y => ⟨rfl, B'⟩) (fun y2 => wi_lt 20 (fun y => ⟨rfl, B'⟩) (fun y3 => wi_gt 300 (fun y => ⟨rfl, B'⟩) (fun y4 => wi_lt 0 (fun y => ⟨rfl, B'⟩) (fun y5 => wi_le 3 (fun y6 => absurd ⟨⟨y1, y2⟩, ⟨y3, y4⟩, y5, y6⟩ h) (fun y => ⟨rfl, B'⟩))))))
  refine wx_in 20 300 (gd_bt (fun z => no (fun h => (of_decide_eq_false z) h.1)) (fun z => ?_))
  refine wx_in 20 300 (gd_bt (fun z2 => no (fun h => (of_decide_eq_false z2) h.2.1)) (fun z2 => ?_))
  refine wx_in 0 3 (gd_bt (fun z3 => no (fun h => (of_decide_eq_false z3) h.2.2)) (fun z3 => ?_))
  have z := of_decide_eq_true z
  have z2 := of_decide_eq_true z2
  have z3 := of_decide_eq_true z3
  refine wi_lt 20 (fun y => absurd y (by omega)) (fun y1 => wi_gt 300 (fun y => absurd y (by omega)) (fun y2 => wi_lt 20 (fun y => absurd y (by omega)) (fun y3 => wi_gt 300 (fun y => absurd y (by omega)) (fun y4 => wi_lt 0 (fun y => absurd y (by omega)) (fun y5 => wi_le 3 (fun y6 => ⟨rfl, ?_⟩) (fun y => absurd y (by omega)))))))
  obtain ⟨a, rfl, a1, a2, a3⟩ := wi_c z (by omega)
  obtain ⟨b, rfl, b1, b2, b3⟩ := wi_c z2 (by omega)
  obtain ⟨c, rfl, c1, c2, c3⟩ := wi_c z3 (by omega)
  obtain ⟨d1, d2, d3, d4, d5, d6, d7, d8, d9, d10, d11, d12, d13, d14⟩ := C
  exact rl_st ⟨d1, d2, d3, d4, by omega, by omega, by omega, d8, d9, d10, d11, d12, d13, d14⟩ ⟨by have := L.1; omega, L.2⟩ R
theorem i_vc_glue {k : Nat} {u : SX} {v : SY} (I : i_Rel k u v) (hk : k + 5 ≤ 2560) (v1 : Int32) (v2 : Int32) (v3 : Int32) : wpX_glue (fun r u' => wpY_glue (fun r' v' => r' = r ∧ i_Rel (k + 5) u' v') v v1 v2 v3) u v1 v2 v3 := by
  refine rl_elim (Q := fun u v => wpX_glue (fun r u' => wpY_glue (fun r' v' => r' = r ∧ i_Rel (k + 5) u' v') v v1 v2 v3) u v1 v2 v3) I ?_
  intro n lc pc fw rw fl sw ss sk ba hyc ph t w lg kn P pa pb pq pd x_breakCount x_lineCount x_paragraphCount x_stale a_heads a_glyphs a_breakEnd a_breakNext a_breakHyphen a_breakTaken a_wayDemerits a_wayBefore a_lineFacts a_paragraphDemerits y_ready y_glyphCount y_breaks y_natural y_spaces y_lineCount y_paragraphs b_patA b_patB b_patC b_patDigits b_glyphs b_glyphOf b_bEnd b_bNext b_bHyphen b_least b_before b_way b_lFrom b_lTo b_lNumber b_lParagraph b_lPage b_lHyphen b_lLast b_best B
  have B' : i_Rel (k + 5) ((nI n), (nI lc), (nI pc), (nI fw), (nI rw), (nI fl), (nI sw), (nI ss), (nI sk), (nI ba), (nI hyc), (nI ph), x_breakCount, x_lineCount, x_paragraphCount, x_stale, (gd_tI t), (gd_tI w), (gd_lI lg), (gd_kI kn), (gd_tI P), a_heads, a_glyphs, a_breakEnd, a_breakNext, a_breakHyphen, a_breakTaken, a_wayDemerits, a_wayBefore, a_lineFacts, a_paragraphDemerits) ((nI n), (nI lc), (nI pc), (nI fw), (nI rw), (nI fl), (nI sw), (nI ss), (nI sk), (nI ba), (nI hyc), (nI ph), y_ready, y_glyphCount, y_breaks, y_natural, y_spaces, y_lineCount, y_paragraphs, (gd_tI t), (gd_tI w), (gd_lI lg), (gd_kI kn), b_patA, b_patB, b_patC, b_patDigits, b_glyphs, b_glyphOf, b_bEnd, b_bNext, b_bHyphen, b_least, b_before, b_way, b_lFrom, b_lTo, b_lNumber, b_lParagraph, b_lPage, b_lHyphen, b_lLast, b_best) := rl_ok B (by omega)
  obtain ⟨C, L, R, F⟩ := B
  unfold wpX_glue
  have no : ¬ ((1 ≤ v1.toInt ∧ v1.toInt ≤ 20) ∧ (0 ≤ v2.toInt ∧ v2.toInt ≤ 20) ∧ (0 ≤ v3.toInt ∧ v3.toInt ≤ v1.toInt)) → wpY_glue (fun r' v' => r' = 0 ∧ i_Rel (k + 5) ((nI n), (nI lc), (nI pc), (nI fw), (nI rw), (nI fl), (nI sw), (nI ss), (nI sk), (nI ba), (nI hyc), (nI ph), x_breakCount, x_lineCount, x_paragraphCount, x_stale, (gd_tI t), (gd_tI w), (gd_lI lg), (gd_kI kn), (gd_tI P), a_heads, a_glyphs, a_breakEnd, a_breakNext, a_breakHyphen, a_breakTaken, a_wayDemerits, a_wayBefore, a_lineFacts, a_paragraphDemerits) v') ((nI n), (nI lc), (nI pc), (nI fw), (nI rw), (nI fl), (nI sw), (nI ss), (nI sk), (nI ba), (nI hyc), (nI ph), y_ready, y_glyphCount, y_breaks, y_natural, y_spaces, y_lineCount, y_paragraphs, (gd_tI t), (gd_tI w), (gd_lI lg), (gd_kI kn), b_patA, b_patB, b_patC, b_patDigits, b_glyphs, b_glyphOf, b_bEnd, b_bNext, b_bHyphen, b_least, b_before, b_way, b_lFrom, b_lTo, b_lNumber, b_lParagraph, b_lPage, b_lHyphen, b_lLast, b_best) v1 v2 v3 := by
    intro h
    exact wi_lt 1 (fun y => ⟨rfl, B'⟩) (fun y1 => wi_gt 20 (fun y => ⟨rfl, B'⟩) (fun y2 => wi_lt 0 (fun y => ⟨rfl, B'⟩) (fun y3 => wi_gt 20 (fun y => ⟨rfl, B'⟩) (fun y4 => wi_lt 0 (fun y => ⟨rfl, B'⟩) (fun y5 => wi_le v1.toInt (fun y6 => absurd ⟨⟨y1, y2⟩, ⟨y3, y4⟩, y5, y6⟩ h) (fun y => ⟨rfl, B'⟩) rfl)))))
  refine wx_in 1 20 (gd_bt (fun z => no (fun h => (of_decide_eq_false z) h.1)) (fun z => ?_))
  refine wx_in 0 20 (gd_bt (fun z2 => no (fun h => (of_decide_eq_false z2) h.2.1)) (fun z2 => ?_))
  refine wx_in 0 v1.toInt (gd_bt (fun z3 => no (fun h => (of_decide_eq_false z3) h.2.2)) (fun z3 => ?_)) (by decide) rfl
  have z := of_decide_eq_true z
  have z2 := of_decide_eq_true z2
  have z3 := of_decide_eq_true z3
  refine wi_lt 1 (fun y => absurd y (by omega)) (fun y1 => wi_gt 20 (fun y => absurd y (by omega)) (fun y2 => wi_lt 0 (fun y => absurd y (by omega)) (fun y3 => wi_gt 20 (fun y => absurd y (by omega)) (fun y4 => wi_lt 0 (fun y => absurd y (by omega)) (fun y5 => wi_le v1.toInt (fun y6 => ⟨rfl, ?_⟩) (fun y => absurd y (by omega)) rfl)))))
  have z3' : 0 ≤ v3.toInt ∧ v3.toInt ≤ 20 := by omega
  clear z3 y1 y2 y3 y4 y5 y6 no
  obtain ⟨c, rfl, c1, c2, c3⟩ := wi_c z3' (by omega)
  obtain ⟨a, rfl, a1, a2, a3⟩ := wi_c z (by omega)
  obtain ⟨b, rfl, b1, b2, b3⟩ := wi_c z2 (by omega)
  obtain ⟨d1, d2, d3, d4, d5, d6, d7, d8, d9, d10, d11, d12, d13, d14⟩ := C
  exact rl_st ⟨d1, d2, d3, d4, d5, d6, d7, by omega, by omega, by omega, d11, d12, d13, d14⟩ ⟨by have := L.1; omega, L.2⟩ R
theorem i_vc_rules {k : Nat} {u : SX} {v : SY} (I : i_Rel k u v) (hk : k + 5 ≤ 2560) (v1 : Int32) (v2 : Int32) (v3 : Int32) : wpX_rules (fun r u' => wpY_rules (fun r' v' => r' = r ∧ i_Rel (k + 5) u' v') v v1 v2 v3) u v1 v2 v3 := by
  refine rl_elim (Q := fun u v => wpX_rules (fun r u' => wpY_rules (fun r' v' => r' = r ∧ i_Rel (k + 5) u' v') v v1 v2 v3) u v1 v2 v3) I ?_
  intro n lc pc fw rw fl sw ss sk ba hyc ph t w lg kn P pa pb pq pd x_breakCount x_lineCount x_paragraphCount x_stale a_heads a_glyphs a_breakEnd a_breakNext a_breakHyphen a_breakTaken a_wayDemerits a_wayBefore a_lineFacts a_paragraphDemerits y_ready y_glyphCount y_breaks y_natural y_spaces y_lineCount y_paragraphs b_patA b_patB b_patC b_patDigits b_glyphs b_glyphOf b_bEnd b_bNext b_bHyphen b_least b_before b_way b_lFrom b_lTo b_lNumber b_lParagraph b_lPage b_lHyphen b_lLast b_best B
  have B' : i_Rel (k + 5) ((nI n), (nI lc), (nI pc), (nI fw), (nI rw), (nI fl), (nI sw), (nI ss), (nI sk), (nI ba), (nI hyc), (nI ph), x_breakCount, x_lineCount, x_paragraphCount, x_stale, (gd_tI t), (gd_tI w), (gd_lI lg), (gd_kI kn), (gd_tI P), a_heads, a_glyphs, a_breakEnd, a_breakNext, a_breakHyphen, a_breakTaken, a_wayDemerits, a_wayBefore, a_lineFacts, a_paragraphDemerits) ((nI n), (nI lc), (nI pc), (nI fw), (nI rw), (nI fl), (nI sw), (nI ss), (nI sk), (nI ba), (nI hyc), (nI ph), y_ready, y_glyphCount, y_breaks, y_natural, y_spaces, y_lineCount, y_paragraphs, (gd_tI t), (gd_tI w), (gd_lI lg), (gd_kI kn), b_patA, b_patB, b_patC, b_patDigits, b_glyphs, b_glyphOf, b_bEnd, b_bNext, b_bHyphen, b_least, b_before, b_way, b_lFrom, b_lTo, b_lNumber, b_lParagraph, b_lPage, b_lHyphen, b_lLast, b_best) := rl_ok B (by omega)
  obtain ⟨C, L, R, F⟩ := B
  unfold wpX_rules
  have no : ¬ ((0 ≤ v1.toInt ∧ v1.toInt ≤ 10000) ∧ (0 ≤ v2.toInt ∧ v2.toInt ≤ 200) ∧ (1 ≤ v3.toInt ∧ v3.toInt ≤ 12)) → wpY_rules (fun r' v' => r' = 0 ∧ i_Rel (k + 5) ((nI n), (nI lc), (nI pc), (nI fw), (nI rw), (nI fl), (nI sw), (nI ss), (nI sk), (nI ba), (nI hyc), (nI ph), x_breakCount, x_lineCount, x_paragraphCount, x_stale, (gd_tI t), (gd_tI w), (gd_lI lg), (gd_kI kn), (gd_tI P), a_heads, a_glyphs, a_breakEnd, a_breakNext, a_breakHyphen, a_breakTaken, a_wayDemerits, a_wayBefore, a_lineFacts, a_paragraphDemerits) v') ((nI n), (nI lc), (nI pc), (nI fw), (nI rw), (nI fl), (nI sw), (nI ss), (nI sk), (nI ba), (nI hyc), (nI ph), y_ready, y_glyphCount, y_breaks, y_natural, y_spaces, y_lineCount, y_paragraphs, (gd_tI t), (gd_tI w), (gd_lI lg), (gd_kI kn), b_patA, b_patB, b_patC, b_patDigits, b_glyphs, b_glyphOf, b_bEnd, b_bNext, b_bHyphen, b_least, b_before, b_way, b_lFrom, b_lTo, b_lNumber, b_lParagraph, b_lPage, b_lHyphen, b_lLast, b_best) v1 v2 v3 := by
    intro h
    exact wi_lt 0 (fun y => ⟨rfl, B'⟩) (fun y1 => wi_gt 10000 (fun y => ⟨rfl, B'⟩) (fun y2 => wi_lt 0 (fun y => ⟨rfl, B'⟩) (fun y3 => wi_gt 200 (fun y => ⟨rfl, B'⟩) (fun y4 => wi_lt 1 (fun y => ⟨rfl, B'⟩) (fun y5 => wi_le 12 (fun y6 => absurd ⟨⟨y1, y2⟩, ⟨y3, y4⟩, y5, y6⟩ h) (fun y => ⟨rfl, B'⟩))))))
  refine wx_in 0 10000 (gd_bt (fun z => no (fun h => (of_decide_eq_false z) h.1)) (fun z => ?_))
  refine wx_in 0 200 (gd_bt (fun z2 => no (fun h => (of_decide_eq_false z2) h.2.1)) (fun z2 => ?_))
  refine wx_in 1 12 (gd_bt (fun z3 => no (fun h => (of_decide_eq_false z3) h.2.2)) (fun z3 => ?_))
  have z := of_decide_eq_true z
  have z2 := of_decide_eq_true z2
  have z3 := of_decide_eq_true z3
  refine wi_lt 0 (fun y => absurd y (by omega)) (fun y1 => wi_gt 10000 (fun y => absurd y (by omega)) (fun y2 => wi_lt 0 (fun y => absurd y (by omega)) (fun y3 => wi_gt 200 (fun y => absurd y (by omega)) (fun y4 => wi_lt 1 (fun y => absurd y (by omega)) (fun y5 => wi_le 12 (fun y6 => ⟨rfl, ?_⟩) (fun y => absurd y (by omega)))))))
  obtain ⟨a, rfl, a1, a2, a3⟩ := wi_c z (by omega)
  obtain ⟨b, rfl, b1, b2, b3⟩ := wi_c z2 (by omega)
  obtain ⟨c, rfl, c1, c2, c3⟩ := wi_c z3 (by omega)
  obtain ⟨d1, d2, d3, d4, d5, d6, d7, d8, d9, d10, d11, d12, d13, d14⟩ := C
  exact rl_st ⟨d1, d2, d3, d4, d5, d6, d7, d8, d9, d10, by omega, by omega, by omega, by omega⟩ ⟨by have := L.1; omega, L.2⟩ R
