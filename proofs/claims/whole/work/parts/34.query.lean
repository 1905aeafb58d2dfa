theorem pt_P31 {P pa pb pq pd : Nat → Nat} {pc : Nat} {A B C G : Nat → Int32} (h : pt_ok P pc A B C G pa pb pq pd) : ∀ k, P k < 2 ^ 31 := fun k => by have := h.2.2.2.2 k; omega
/-- what is known of the lines of a set text -/
theorem ly_end {t w lg : Nat → Nat} {kn : Nat → Int} {P : Nat → Nat} {n sw ss sk fw rw fl ba hyc ph : Nat} (C : cf_ok t w lg kn n fw rw fl sw ss sk ba hyc ph) :
    (ly_at t w lg kn P n sw ss sk fw rw fl ba hyc (n + 1)).1.2.1 ≤ 48 ∧ (ly_at t w lg kn P n sw ss sk fw rw fl ba hyc (n + 1)).1.2.2.1 ≤ 24 ∧ (∀ k, k < (ly_at t w lg kn P n sw ss sk fw rw fl ba hyc (n + 1)).1.2.1 → lt_val t n ((ly_at t w lg kn P n sw ss sk fw rw fl ba hyc (n + 1)).1.1 k)) ∧ lt_fit (ly_at t w lg kn P n sw ss sk fw rw fl ba hyc (n + 1)).1.2.1 (ly_at t w lg kn P n sw ss sk fw rw fl ba hyc (n + 1)).1.2.2.1 (ly_at t w lg kn P n sw ss sk fw rw fl ba hyc (n + 1)).1.1 ∧
    (∀ j, j < n → t j < 10 → ∃ k, k < (ly_at t w lg kn P n sw ss sk fw rw fl ba hyc (n + 1)).1.2.1 ∧ ((ly_at t w lg kn P n sw ss sk fw rw fl ba hyc (n + 1)).1.1 k).1 ≤ j ∧ j < ((ly_at t w lg kn P n sw ss sk fw rw fl ba hyc (n + 1)).1.1 k).2.1) := by
  obtain ⟨I1, I2, I3, I4, I5, I6, I7, I8⟩ := ly_okA (P := P) (sw := sw) (ss := ss) (sk := sk) (fw := fw) (rw := rw) (fl := fl) (ba := ba) (hyc := hyc) C (n + 1) (Nat.le_refl _)
  have hn := C.1
  have hf : (ly_at t w lg kn P n sw ss sk fw rw fl ba hyc (n + 1)).2 = n + 1 := by rw [ly_at, if_pos (Or.inl rfl)]
  rw [hf] at I5 I8
  exact ⟨by omega, by omega, I6, I7, fun j a b => I8 j (by omega) a b⟩
section
variable {n lc pc fw rw fl sw ss sk ba hyc ph : Nat} {t w lg : Nat → Nat} {kn : Nat → Int}
variable {P pa pb pq pd : Nat → Nat} {k : Nat}
variable {x_breakCount x_lineCount x_paragraphCount x_stale : Int32} {a_patterns a_heads a_glyphs a_breakEnd a_breakNext a_breakHyphen a_breakTaken a_wayBefore a_lineFacts : Nat → Int32} {a_wayDemerits a_paragraphDemerits : Nat → Int64}
variable {y_ready y_glyphCount y_breaks y_natural y_spaces y_lineCount y_paragraphs : Int32} {b_patA b_patB b_patC b_patDigits b_glyphs b_glyphOf b_bEnd b_bNext b_bHyphen b_before b_way b_lFrom b_lTo b_lNumber b_lParagraph b_lPage b_lHyphen b_lLast : Nat → Int32} {b_least b_best : Nat → Int64}
theorem lo_x {post : SX → Prop} (B : rl_B k n lc pc fw rw fl sw ss sk ba hyc ph t w lg kn P pa pb pq pd x_lineCount x_paragraphCount x_stale a_lineFacts a_paragraphDemerits y_ready y_lineCount y_paragraphs b_patA b_patB b_patC b_patDigits b_lFrom b_lTo b_lNumber b_lParagraph b_lPage b_lHyphen b_lLast b_best)
    (hp : ∀ x_breakCount x_lineCount x_paragraphCount a_heads a_glyphs a_breakEnd a_breakNext a_breakHyphen a_breakTaken a_wayDemerits a_wayBefore a_lineFacts a_paragraphDemerits, rl_x t w lg kn P n sw ss sk fw rw fl ba hyc ph x_lineCount x_paragraphCount a_lineFacts a_paragraphDemerits → post ((nI n), (nI lc), (nI pc), (nI fw), (nI rw), (nI fl), (nI sw), (nI ss), (nI sk), (nI ba), (nI hyc), (nI ph), x_breakCount, x_lineCount, x_paragraphCount, 0, (gd_tI t), (gd_tI w), (gd_lI lg), (gd_kI kn), (gd_tI P), a_heads, a_glyphs, a_breakEnd, a_breakNext, a_breakHyphen, a_breakTaken, a_wayDemerits, a_wayBefore, a_lineFacts, a_paragraphDemerits)) : wpX_layOut post ((nI n), (nI lc), (nI pc), (nI fw), (nI rw), (nI fl), (nI sw), (nI ss), (nI sk), (nI ba), (nI hyc), (nI ph), x_breakCount, x_lineCount, x_paragraphCount, x_stale, (gd_tI t), (gd_tI w), (gd_lI lg), (gd_kI kn), (gd_tI P), a_heads, a_glyphs, a_breakEnd, a_breakNext, a_breakHyphen, a_breakTaken, a_wayDemerits, a_wayBefore, a_lineFacts, a_paragraphDemerits) := by
  obtain ⟨C, L, R, F⟩ := B
  obtain ⟨e1, e2, e3, e4, e5⟩ := ly_end (P := P) C
  rcases F with ⟨rfl, _⟩ | ⟨rfl, _, rx, _⟩
  · refine br_f (by decide) ⟨n + 1 + 1, ?_⟩
    refine lx_loop post C (pt_P31 R) (fun g x1 x_breakCount a_heads a_glyphs a_breakEnd a_breakNext a_breakHyphen a_breakTaken a_wayDemerits a_wayBefore a_lineFacts a_paragraphDemerits X => ?_) (n + 1) 0 (by omega) _ _ _ _ _ _ _ _ _ _ _ ⟨fun i h => absurd h (Nat.not_lt_zero i), fun p h => absurd h (Nat.not_lt_zero p)⟩
    have hn := C.1
    refine br_t (nI_lt (by omega) (by omega)) (px_fill e1 C.2.2.2.2.2.2.2.2.2.2.2.2.1 C.2.2.2.2.2.2.2.2.2.2.2.2.2 (fun i hi => Nat.lt_of_lt_of_le (e4 i hi).2.2 (by omega)) X.1 (fun a_lineFacts XF hpg => ?_))
    exact hp _ _ _ _ _ _ _ _ _ _ _ _ _ ⟨rfl, rfl, ⟨XF, X.2⟩, hpg⟩
  · exact br_t rfl (hp _ _ _ _ _ _ _ _ _ _ _ _ _ rx)
theorem lo_y {post : SY → Prop} (B : rl_B k n lc pc fw rw fl sw ss sk ba hyc ph t w lg kn P pa pb pq pd x_lineCount x_paragraphCount x_stale a_lineFacts a_paragraphDemerits y_ready y_lineCount y_paragraphs b_patA b_patB b_patC b_patDigits b_lFrom b_lTo b_lNumber b_lParagraph b_lPage b_lHyphen b_lLast b_best)
    (hp : ∀ y_glyphCount y_breaks y_natural y_spaces y_lineCount y_paragraphs b_glyphs b_glyphOf b_bEnd b_bNext b_bHyphen b_least b_before b_way b_lFrom b_lTo b_lNumber b_lParagraph b_lPage b_lHyphen b_lLast b_best, rl_y t w lg kn P n sw ss sk fw rw fl ba hyc ph y_lineCount y_paragraphs b_lFrom b_lTo b_lNumber b_lParagraph b_lPage b_lHyphen b_lLast b_best → post ((nI n), (nI lc), (nI pc), (nI fw), (nI rw), (nI fl), (nI sw), (nI ss), (nI sk), (nI ba), (nI hyc), (nI ph), 1, y_glyphCount, y_breaks, y_natural, y_spaces, y_lineCount, y_paragraphs, (gd_tI t), (gd_tI w), (gd_lI lg), (gd_kI kn), b_patA, b_patB, b_patC, b_patDigits, b_glyphs, b_glyphOf, b_bEnd, b_bNext, b_bHyphen, b_least, b_before, b_way, b_lFrom, b_lTo, b_lNumber, b_lParagraph, b_lPage, b_lHyphen, b_lLast, b_best)) : wpY_set post ((nI n), (nI lc), (nI pc), (nI fw), (nI rw), (nI fl), (nI sw), (nI ss), (nI sk), (nI ba), (nI hyc), (nI ph), y_ready, y_glyphCount, y_breaks, y_natural, y_spaces, y_lineCount, y_paragraphs, (gd_tI t), (gd_tI w), (gd_lI lg), (gd_kI kn), b_patA, b_patB, b_patC, b_patDigits, b_glyphs, b_glyphOf, b_bEnd, b_bNext, b_bHyphen, b_least, b_before, b_way, b_lFrom, b_lTo, b_lNumber, b_lParagraph, b_lPage, b_lHyphen, b_lLast, b_best) := by
  obtain ⟨C, L, R, F⟩ := B
  obtain ⟨e1, e2, e3, e4, e5⟩ := ly_end (P := P) C
  rcases F with ⟨_, rfl⟩ | ⟨_, rfl, _, ry⟩
  · refine br_t rfl ⟨n + 1 + 1, ?_⟩
    refine yy_loop post C R (fun g y_glyphCount y_breaks y_natural y_spaces b_glyphs b_glyphOf b_bEnd b_bNext b_bHyphen b_least b_before b_way b_lFrom b_lTo b_lNumber b_lParagraph b_lHyphen b_lLast b_best Y => ?_) (n + 1 + 1) 0 (by omega) (by omega) rfl _ _ _ _ _ _ _ _ _ _ _ _ _ _ _ _ _ _ _ ⟨fun i h => absurd h (Nat.not_lt_zero i), fun p h => absurd h (Nat.not_lt_zero p)⟩
    have hn := C.1
    refine br_t (nI_lt (by omega) (by omega)) ?_
    refine py_pages (par := (ly_at t w lg kn P n sw ss sk fw rw fl ba hyc (n + 1)).1.2.2.1) e1 C.2.2.2.2.2.2.2.2.2.2.2.2.1 C.2.2.2.2.2.2.2.2.2.2.2.2.2 (fun i hi => Nat.lt_of_lt_of_le (e3 i hi).2.2.2.2.2 (by omega)) e4 Y.1 (fun b_lPage hpg => ?_)
    exact hp _ _ _ _ _ _ _ _ _ _ _ _ _ _ _ _ _ _ _ _ _ _ ⟨rfl, rfl, Y, hpg⟩
  · exact br_f (by decide) (hp _ _ _ _ _ _ _ _ _ _ _ _ _ _ _ _ _ _ _ _ _ _ ry)
theorem rl_set {j : Nat} (C : cf_ok t w lg kn n fw rw fl sw ss sk ba hyc ph) (L : -(k : Int) ≤ (nI lc).toInt ∧ (nI lc).toInt ≤ 8) (R : pt_ok P pc b_patA b_patB b_patC b_patDigits pa pb pq pd) (hj : k ≤ j) (rx : rl_x t w lg kn P n sw ss sk fw rw fl ba hyc ph x_lineCount x_paragraphCount a_lineFacts a_paragraphDemerits) (ry : rl_y t w lg kn P n sw ss sk fw rw fl ba hyc ph y_lineCount y_paragraphs b_lFrom b_lTo b_lNumber b_lParagraph b_lPage b_lHyphen b_lLast b_best) : i_Rel j ((nI n), (nI lc), (nI pc), (nI fw), (nI rw), (nI fl), (nI sw), (nI ss), (nI sk), (nI ba), (nI hyc), (nI ph), x_breakCount, x_lineCount, x_paragraphCount, 0, (gd_tI t), (gd_tI w), (gd_lI lg), (gd_kI kn), (gd_tI P), a_heads, a_glyphs, a_breakEnd, a_breakNext, a_breakHyphen, a_breakTaken, a_wayDemerits, a_wayBefore, a_lineFacts, a_paragraphDemerits) ((nI n), (nI lc), (nI pc), (nI fw), (nI rw), (nI fl), (nI sw), (nI ss), (nI sk), (nI ba), (nI hyc), (nI ph), 1, y_glyphCount, y_breaks, y_natural, y_spaces, y_lineCount, y_paragraphs, (gd_tI t), (gd_tI w), (gd_lI lg), (gd_kI kn), b_patA, b_patB, b_patC, b_patDigits, b_glyphs, b_glyphOf, b_bEnd, b_bNext, b_bHyphen, b_least, b_before, b_way, b_lFrom, b_lTo, b_lNumber, b_lParagraph, b_lPage, b_lHyphen, b_lLast, b_best) :=
  rl_mk ⟨C, ⟨by have := L.1; omega, L.2⟩, R, Or.inr ⟨rfl, rfl, rx, ry⟩⟩
end
theorem i_vc_lines {k : Nat} {u : SX} {v : SY} (I : i_Rel k u v) (hk : k + 5 ≤ 2560) : wpX_lines (fun r u' => wpY_lines (fun r' v' => r' = r ∧ i_Rel (k + 5) u' v') v) u := by
  refine rl_elim (Q := fun u v => wpX_lines (fun r u' => wpY_lines (fun r' v' => r' = r ∧ i_Rel (k + 5) u' v') v) u) I ?_
  intro n lc pc fw rw fl sw ss sk ba hyc ph t w lg kn P pa pb pq pd x_breakCount x_lineCount x_paragraphCount x_stale a_heads a_glyphs a_breakEnd a_breakNext a_breakHyphen a_breakTaken a_wayDemerits a_wayBefore a_lineFacts a_paragraphDemerits y_ready y_glyphCount y_breaks y_natural y_spaces y_lineCount y_paragraphs b_patA b_patB b_patC b_patDigits b_glyphs b_glyphOf b_bEnd b_bNext b_bHyphen b_least b_before b_way b_lFrom b_lTo b_lNumber b_lParagraph b_lPage b_lHyphen b_lLast b_best B
  obtain ⟨C, L, R, F⟩ := id B
  unfold wpX_lines
  refine lo_x B (fun x_breakCount x_lineCount x_paragraphCount a_heads a_glyphs a_breakEnd a_breakNext a_breakHyphen a_breakTaken a_wayDemerits a_wayBefore a_lineFacts a_paragraphDemerits rx => ?_)
  unfold wpY_lines
  refine lo_y B (fun y_glyphCount y_breaks y_natural y_spaces y_lineCount y_paragraphs b_glyphs b_glyphOf b_bEnd b_bNext b_bHyphen b_least b_before b_way b_lFrom b_lTo b_lNumber b_lParagraph b_lPage b_lHyphen b_lLast b_best ry => ?_)
  exact ⟨by rw [rx.1, ry.1], rl_set C L R (by omega) rx ry⟩
theorem i_vc_demerits {k : Nat} {u : SX} {v : SY} (I : i_Rel k u v) (hk : k + 5 ≤ 2560) (v1 : Int32) : wpX_demerits (fun r u' => wpY_demerits (fun r' v' => r' = r ∧ i_Rel (k + 5) u' v') v v1) u v1 := by
  refine rl_elim (Q := fun u v => wpX_demerits (fun r u' => wpY_demerits (fun r' v' => r' = r ∧ i_Rel (k + 5) u' v') v v1) u v1) I ?_
  intro n lc pc fw rw fl sw ss sk ba hyc ph t w lg kn P pa pb pq pd x_breakCount x_lineCount x_paragraphCount x_stale a_heads a_glyphs a_breakEnd a_breakNext a_breakHyphen a_breakTaken a_wayDemerits a_wayBefore a_lineFacts a_paragraphDemerits y_ready y_glyphCount y_breaks y_natural y_spaces y_lineCount y_paragraphs b_patA b_patB b_patC b_patDigits b_glyphs b_glyphOf b_bEnd b_bNext b_bHyphen b_least b_before b_way b_lFrom b_lTo b_lNumber b_lParagraph b_lPage b_lHyphen b_lLast b_best B
  obtain ⟨C, L, R, F⟩ := id B
  obtain ⟨e1, e2, e3, e4, e5⟩ := ly_end (P := P) C
  unfold wpX_demerits
  refine lo_x B (fun x_breakCount x_lineCount x_paragraphCount a_heads a_glyphs a_breakEnd a_breakNext a_breakHyphen a_breakTaken a_wayDemerits a_wayBefore a_lineFacts a_paragraphDemerits rx => ?_)
  have rx' := rx
  obtain ⟨x1, x2, x3, x4⟩ := rx
  subst x2
  refine br_c (fun z => ?_) (fun z => ?_)
  · unfold wpY_demerits
    refine lo_y B (fun y_glyphCount y_breaks y_natural y_spaces y_lineCount y_paragraphs b_glyphs b_glyphOf b_bEnd b_bNext b_bHyphen b_least b_before b_way b_lFrom b_lTo b_lNumber b_lParagraph b_lPage b_lHyphen b_lLast b_best ry => ?_)
    exact br_t z ⟨rfl, rl_set C L R (by omega) rx' ry⟩
  · obtain ⟨p, hp, rfl⟩ := nI_of z
    refine pk_lt p (ly_at t w lg kn P n sw ss sk fw rw fl ba hyc (n + 1)).1.2.2.1 (fun y => ⟨vp_in_nI (by omega) (by omega), ?_⟩) (fun y => ?_)
    · unfold wpY_demerits
      refine lo_y B (fun y_glyphCount y_breaks y_natural y_spaces y_lineCount y_paragraphs b_glyphs b_glyphOf b_bEnd b_bNext b_bHyphen b_least b_before b_way b_lFrom b_lTo b_lNumber b_lParagraph b_lPage b_lHyphen b_lLast b_best ry => ?_)
      have ry' := ry
      obtain ⟨y1, y2, y3, y4⟩ := ry
      subst y2
      refine br_f z (br_t (nI_lt y (by omega)) ⟨vp_in_nI (by omega) (by omega), ?_, rl_set C L R (by omega) rx' ry'⟩)
      rw [nI_clamp (by omega), x3.2 p y, y3.2 p y]
    · unfold wpY_demerits
      refine lo_y B (fun y_glyphCount y_breaks y_natural y_spaces y_lineCount y_paragraphs b_glyphs b_glyphOf b_bEnd b_bNext b_bHyphen b_least b_before b_way b_lFrom b_lTo b_lNumber b_lParagraph b_lPage b_lHyphen b_lLast b_best ry => ?_)
      have ry' := ry
      obtain ⟨y1, y2, y3, y4⟩ := ry
      subst y2
      exact br_f z (br_f (nI_nlt y (by omega)) ⟨rfl, rl_set C L R (by omega) rx' ry'⟩)
theorem i_vc_hyphen {k : Nat} {u : SX} {v : SY} (I : i_Rel k u v) (hk : k + 5 ≤ 2560) (v1 : Int32) : wpX_hyphen (fun r => wpY_hyphen (fun r' => r' = r ∧ i_Rel (k + 5) u v) v v1) u v1 := by
  refine rl_elim (Q := fun u v => wpX_hyphen (fun r => wpY_hyphen (fun r' => r' = r ∧ i_Rel (k + 5) u v) v v1) u v1) I ?_
  intro n lc pc fw rw fl sw ss sk ba hyc ph t w lg kn P pa pb pq pd x_breakCount x_lineCount x_paragraphCount x_stale a_heads a_glyphs a_breakEnd a_breakNext a_breakHyphen a_breakTaken a_wayDemerits a_wayBefore a_lineFacts a_paragraphDemerits y_ready y_glyphCount y_breaks y_natural y_spaces y_lineCount y_paragraphs b_patA b_patB b_patC b_patDigits b_glyphs b_glyphOf b_bEnd b_bNext b_bHyphen b_least b_before b_way b_lFrom b_lTo b_lNumber b_lParagraph b_lPage b_lHyphen b_lLast b_best B
  have B' : i_Rel (k + 5) ((nI n), (nI lc), (nI pc), (nI fw), (nI rw), (nI fl), (nI sw), (nI ss), (nI sk), (nI ba), (nI hyc), (nI ph), x_breakCount, x_lineCount, x_paragraphCount, x_stale, (gd_tI t), (gd_tI w), (gd_lI lg), (gd_kI kn), (gd_tI P), a_heads, a_glyphs, a_breakEnd, a_breakNext, a_breakHyphen, a_breakTaken, a_wayDemerits, a_wayBefore, a_lineFacts, a_paragraphDemerits) ((nI n), (nI lc), (nI pc), (nI fw), (nI rw), (nI fl), (nI sw), (nI ss), (nI sk), (nI ba), (nI hyc), (nI ph), y_ready, y_glyphCount, y_breaks, y_natural, y_spaces, y_lineCount, y_paragraphs, (gd_tI t), (gd_tI w), (gd_lI lg), (gd_kI kn), b_patA, b_patB, b_patC, b_patDigits, b_glyphs, b_glyphOf, b_bEnd, b_bNext, b_bHyphen, b_least, b_before, b_way, b_lFrom, b_lTo, b_lNumber, b_lParagraph, b_lPage, b_lHyphen, b_lLast, b_best) := rl_ok B (by omega)
  obtain ⟨C, L, R, F⟩ := B
  unfold wpX_hyphen
  by_cases z : v1 < 0
  · refine br_t z ⟨rfl, ?_⟩
    unfold wpY_hyphen
    exact yl_neg z (br_t rfl ⟨rfl, B'⟩)
  · obtain ⟨i, hi, rfl⟩ := nI_of z
    refine hx_may C.1 C.2.1 (pt_P31 R) hi ⟨?_, yh_hyphen C.1 C.2.1 R hi ⟨rfl, B'⟩⟩
    cases hy_b t P n i <;> rfl
section
variable {n lc pc fw rw fl sw ss sk ba hyc ph : Nat} {t w lg : Nat → Nat} {kn : Nat → Int}
variable {P pa pb pq pd : Nat → Nat} {k : Nat}
variable {x_breakCount x_lineCount x_paragraphCount x_stale : Int32} {a_patterns a_heads a_glyphs a_breakEnd a_breakNext a_breakHyphen a_breakTaken a_wayBefore a_lineFacts : Nat → Int32} {a_wayDemerits a_paragraphDemerits : Nat → Int64}
variable {y_ready y_glyphCount y_breaks y_natural y_spaces y_lineCount y_paragraphs : Int32} {b_patA b_patB b_patC b_patDigits b_glyphs b_glyphOf b_bEnd b_bNext b_bHyphen b_before b_way b_lFrom b_lTo b_lNumber b_lParagraph b_lPage b_lHyphen b_lLast : Nat → Int32} {b_least b_best : Nat → Int64}
theorem sp_x {post : Int32 → SX → Prop} {a b : Nat} (hb : b ≤ 48) (hab : a < b) (ht : ∀ i, t i ≤ 11) (hp0 : ¬ (∀ j, a ≤ j → j < b → t j < 10) → post (-1) ((nI n), (nI lc), (nI pc), (nI fw), (nI rw), (nI fl), (nI sw), (nI ss), (nI sk), (nI ba), (nI hyc), (nI ph), x_breakCount, x_lineCount, x_paragraphCount, x_stale, (gd_tI t), (gd_tI w), (gd_lI lg), (gd_kI kn), a_patterns, a_heads, a_glyphs, a_breakEnd, a_breakNext, a_breakHyphen, a_breakTaken, a_wayDemerits, a_wayBefore, a_lineFacts, a_paragraphDemerits)) (hp1 : (∀ j, a ≤ j → j < b → t j < 10) → ∀ a_heads a_glyphs, post (gd_iI (rn_x t lg w kn sw a b b)) ((nI n), (nI lc), (nI pc), (nI fw), (nI rw), (nI fl), (nI sw), (nI ss), (nI sk), (nI ba), (nI hyc), (nI ph), x_breakCount, x_lineCount, x_paragraphCount, x_stale, (gd_tI t), (gd_tI w), (gd_lI lg), (gd_kI kn), a_patterns, a_heads, a_glyphs, a_breakEnd, a_breakNext, a_breakHyphen, a_breakTaken, a_wayDemerits, a_wayBefore, a_lineFacts, a_paragraphDemerits)) : ∃ n21, wX_span_21 post (nI a) (nI b) (nI n) (nI lc) (nI pc) (nI fw) (nI rw) (nI fl) (nI sw) (nI ss) (nI sk) (nI ba) (nI hyc) (nI ph) x_breakCount x_lineCount x_paragraphCount x_stale (gd_tI t) (gd_tI w) (gd_lI lg) (gd_kI kn) a_patterns a_heads a_glyphs a_breakEnd a_breakNext a_breakHyphen a_breakTaken a_wayDemerits a_wayBefore a_lineFacts a_paragraphDemerits n21 (nI a) := by
  have loop : ∀ d i, i + d = b → a ≤ i → (∀ j, a ≤ j → j < i → t j < 10) → wX_span_21 post (nI a) (nI b) (nI n) (nI lc) (nI pc) (nI fw) (nI rw) (nI fl) (nI sw) (nI ss) (nI sk) (nI ba) (nI hyc) (nI ph) x_breakCount x_lineCount x_paragraphCount x_stale (gd_tI t) (gd_tI w) (gd_lI lg) (gd_kI kn) a_patterns a_heads a_glyphs a_breakEnd a_breakNext a_breakHyphen a_breakTaken a_wayDemerits a_wayBefore a_lineFacts a_paragraphDemerits (d + 1) (nI i) := by
    intro d
    induction d with
    | zero =>
      intro i hi hai hl
      have : i = b := by omega
      subst this
      refine br_t (nI_le (Nat.le_refl _) (by omega)) (xs_shape (by omega) hb ht (fun a_heads a_glyphs hok => xr_end (by omega) hb ht hok ?_))
      rw [show xr_adj 0 0 (rn_sc t a i) = 0 by rw [xr_adj, if_pos rfl], Int32.add_zero]
      exact hp1 hl _ _
    | succ d ih =>
      intro i hi hai hl
      refine br_f (nI_ge (by omega) (by omega)) ⟨vp_in_nI (by omega) (by omega), pk_lt (t i) 10 (fun y => nm_r (nI_1 i) (ih (i + 1) (by omega) (by omega) (fun j h1 h2 => ?_))) (fun y => ?_) (gd_rt (by omega)) rfl (by have := ht i; omega) (by omega)⟩
      · by_cases e : j = i
        · rw [e]; exact y
        · exact hl j h1 (by omega)
      · exact hp0 (fun h => by have := h i hai (by omega); omega)
  exact ⟨_, loop (b - a) a (by omega) (Nat.le_refl _) (fun j h1 h2 => absurd h1 (by omega))⟩
theorem sp_y {post : Int32 → SY → Prop} {a b : Nat} (hn : n ≤ 48) (hb : b ≤ n) (hab : a < b) (ht : ∀ i, t i ≤ 11) (hp0 : ¬ (∀ j, a ≤ j → j < b → t j < 10) → post (-1) ((nI n), (nI lc), (nI pc), (nI fw), (nI rw), (nI fl), (nI sw), (nI ss), (nI sk), (nI ba), (nI hyc), (nI ph), y_ready, y_glyphCount, y_breaks, y_natural, y_spaces, y_lineCount, y_paragraphs, (gd_tI t), (gd_tI w), (gd_lI lg), (gd_kI kn), b_patA, b_patB, b_patC, b_patDigits, b_glyphs, b_glyphOf, b_bEnd, b_bNext, b_bHyphen, b_least, b_before, b_way, b_lFrom, b_lTo, b_lNumber, b_lParagraph, b_lPage, b_lHyphen, b_lLast, b_best)) (hp1 : (∀ j, a ≤ j → j < b → t j < 10) → ∀ y_glyphCount b_glyphs b_glyphOf, post (gd_iI (rn_x t lg w kn sw a b b)) ((nI n), (nI lc), (nI pc), (nI fw), (nI rw), (nI fl), (nI sw), (nI ss), (nI sk), (nI ba), (nI hyc), (nI ph), y_ready, y_glyphCount, y_breaks, y_natural, y_spaces, y_lineCount, y_paragraphs, (gd_tI t), (gd_tI w), (gd_lI lg), (gd_kI kn), b_patA, b_patB, b_patC, b_patDigits, b_glyphs, b_glyphOf, b_bEnd, b_bNext, b_bHyphen, b_least, b_before, b_way, b_lFrom, b_lTo, b_lNumber, b_lParagraph, b_lPage, b_lHyphen, b_lLast, b_best)) : ∃ n21, wY_span_21 post (nI a) (nI b) (nI n) (nI lc) (nI pc) (nI fw) (nI rw) (nI fl) (nI sw) (nI ss) (nI sk) (nI ba) (nI hyc) (nI ph) y_ready y_glyphCount y_breaks y_natural y_spaces y_lineCount y_paragraphs (gd_tI t) (gd_tI w) (gd_lI lg) (gd_kI kn) b_patA b_patB b_patC b_patDigits b_glyphs b_glyphOf b_bEnd b_bNext b_bHyphen b_least b_before b_way b_lFrom b_lTo b_lNumber b_lParagraph b_lPage b_lHyphen b_lLast b_best n21 (nI a) := by
  have loop : ∀ d i, i + d = b → a ≤ i → (∀ j, a ≤ j → j < i → t j < 10) → wY_span_21 post (nI a) (nI b) (nI n) (nI lc) (nI pc) (nI fw) (nI rw) (nI fl) (nI sw) (nI ss) (nI sk) (nI ba) (nI hyc) (nI ph) y_ready y_glyphCount y_breaks y_natural y_spaces y_lineCount y_paragraphs (gd_tI t) (gd_tI w) (gd_lI lg) (gd_kI kn) b_patA b_patB b_patC b_patDigits b_glyphs b_glyphOf b_bEnd b_bNext b_bHyphen b_least b_before b_way b_lFrom b_lTo b_lNumber b_lParagraph b_lPage b_lHyphen b_lLast b_best (d + 1) (nI i) := by
    intro d
    induction d with
    | zero =>
      intro i hi hai hl
      have : i = b := by omega
      subst this
      exact br_t (nI_le (Nat.le_refl _) (by omega)) (ys_shape hab (by omega) ht hl (fun b_glyphs b_glyphOf hok => hp1 hl _ _ _))
    | succ d ih =>
      intro i hi hai hl
      refine br_f (nI_ge (by omega) (by omega)) (yl_is hn (by omega) ht (gd_bt (fun y => ?_) (fun y => nm_r (nI_1 i) (ih (i + 1) (by omega) (by omega) (fun j h1 h2 => ?_)))))
      · have y := of_decide_eq_false y
        exact hp0 (fun h => y ⟨by omega, h i hai (by omega)⟩)
      · have y := of_decide_eq_true y
        by_cases e : j = i
        · rw [e]; exact y.2
        · exact hl j h1 (by omega)
  exact ⟨_, loop (b - a) a (by omega) (Nat.le_refl _) (fun j h1 h2 => absurd h1 (by omega))⟩
end
theorem i_vc_span {k : Nat} {u : SX} {v : SY} (I : i_Rel k u v) (hk : k + 5 ≤ 2560) (v1 : Int32) (v2 : Int32) : wpX_span (fun r u' => wpY_span (fun r' v' => r' = r ∧ i_Rel (k + 5) u' v') v v1 v2) u v1 v2 := by
  refine rl_elim (Q := fun u v => wpX_span (fun r u' => wpY_span (fun r' v' => r' = r ∧ i_Rel (k + 5) u' v') v v1 v2) u v1 v2) I ?_
  intro n lc pc fw rw fl sw ss sk ba hyc ph t w lg kn P pa pb pq pd x_breakCount x_lineCount x_paragraphCount x_stale a_heads a_glyphs a_breakEnd a_breakNext a_breakHyphen a_breakTaken a_wayDemerits a_wayBefore a_lineFacts a_paragraphDemerits y_ready y_glyphCount y_breaks y_natural y_spaces y_lineCount y_paragraphs b_patA b_patB b_patC b_patDigits b_glyphs b_glyphOf b_bEnd b_bNext b_bHyphen b_least b_before b_way b_lFrom b_lTo b_lNumber b_lParagraph b_lPage b_lHyphen b_lLast b_best B
  have B' : ∀ a_heads a_glyphs y_glyphCount b_glyphs b_glyphOf, i_Rel (k + 5) ((nI n), (nI lc), (nI pc), (nI fw), (nI rw), (nI fl), (nI sw), (nI ss), (nI sk), (nI ba), (nI hyc), (nI ph), x_breakCount, x_lineCount, x_paragraphCount, x_stale, (gd_tI t), (gd_tI w), (gd_lI lg), (gd_kI kn), (gd_tI P), a_heads, a_glyphs, a_breakEnd, a_breakNext, a_breakHyphen, a_breakTaken, a_wayDemerits, a_wayBefore, a_lineFacts, a_paragraphDemerits) ((nI n), (nI lc), (nI pc), (nI fw), (nI rw), (nI fl), (nI sw), (nI ss), (nI sk), (nI ba), (nI hyc), (nI ph), y_ready, y_glyphCount, y_breaks, y_natural, y_spaces, y_lineCount, y_paragraphs, (gd_tI t), (gd_tI w), (gd_lI lg), (gd_kI kn), b_patA, b_patB, b_patC, b_patDigits, b_glyphs, b_glyphOf, b_bEnd, b_bNext, b_bHyphen, b_least, b_before, b_way, b_lFrom, b_lTo, b_lNumber, b_lParagraph, b_lPage, b_lHyphen, b_lLast, b_best) := fun _ _ _ _ _ => rl_ok B (by omega)
  obtain ⟨C, L, R, F⟩ := B
  have hn := C.1
  have ln : (nI n).toInt = n := nI_toInt (by omega)
  have no : ¬ (0 ≤ v1.toInt ∧ v1.toInt < v2.toInt ∧ v2.toInt ≤ n) → wpY_span (fun r' v' => r' = -1 ∧ i_Rel (k + 5) ((nI n), (nI lc), (nI pc), (nI fw), (nI rw), (nI fl), (nI sw), (nI ss), (nI sk), (nI ba), (nI hyc), (nI ph), x_breakCount, x_lineCount, x_paragraphCount, x_stale, (gd_tI t), (gd_tI w), (gd_lI lg), (gd_kI kn), (gd_tI P), a_heads, a_glyphs, a_breakEnd, a_breakNext, a_breakHyphen, a_breakTaken, a_wayDemerits, a_wayBefore, a_lineFacts, a_paragraphDemerits) v') ((nI n), (nI lc), (nI pc), (nI fw), (nI rw), (nI fl), (nI sw), (nI ss), (nI sk), (nI ba), (nI hyc), (nI ph), y_ready, y_glyphCount, y_breaks, y_natural, y_spaces, y_lineCount, y_paragraphs, (gd_tI t), (gd_tI w), (gd_lI lg), (gd_kI kn), b_patA, b_patB, b_patC, b_patDigits, b_glyphs, b_glyphOf, b_bEnd, b_bNext, b_bHyphen, b_least, b_before, b_way, b_lFrom, b_lTo, b_lNumber, b_lParagraph, b_lPage, b_lHyphen, b_lLast, b_best) v1 v2 := by
    intro h
    exact wi_lt 0 (fun _ => ⟨rfl, B' _ _ _ _ _⟩) (fun y1 => wi_le v1.toInt (fun _ => ⟨rfl, B' _ _ _ _ _⟩) (fun y2 => wi_le n (fun y3 => absurd ⟨y1, y2, y3⟩ h) (fun _ => ⟨rfl, B' _ _ _ _ _⟩) ln) rfl)
  refine wi_lt 0 (fun y => no (by omega)) (fun y1 => wi_gt n (fun y => no (by omega)) (fun y2 => wi_lt v2.toInt (fun y3 => ?_) (fun y => no (by omega)) rfl) ln)
  obtain ⟨a, rfl, a1, a2, a3⟩ := wi_c (x := v1) (c := 0) (d := n) ⟨y1, by omega⟩ (Int.le_refl 0)
  obtain ⟨b, rfl, b1, b2, b3⟩ := wi_c (x := v2) (c := 0) (d := n) ⟨by omega, y2⟩ (Int.le_refl 0)
  rw [nI_toInt a3, nI_toInt b3] at y3
  have enter : ∀ Q : Int32 → SY → Prop, (∃ n21, wY_span_21 Q (nI a) (nI b) (nI n) (nI lc) (nI pc) (nI fw) (nI rw) (nI fl) (nI sw) (nI ss) (nI sk) (nI ba) (nI hyc) (nI ph) y_ready y_glyphCount y_breaks y_natural y_spaces y_lineCount y_paragraphs (gd_tI t) (gd_tI w) (gd_lI lg) (gd_kI kn) b_patA b_patB b_patC b_patDigits b_glyphs b_glyphOf b_bEnd b_bNext b_bHyphen b_least b_before b_way b_lFrom b_lTo b_lNumber b_lParagraph b_lPage b_lHyphen b_lLast b_best n21 (nI a)) → wpY_span Q ((nI n), (nI lc), (nI pc), (nI fw), (nI rw), (nI fl), (nI sw), (nI ss), (nI sk), (nI ba), (nI hyc), (nI ph), y_ready, y_glyphCount, y_breaks, y_natural, y_spaces, y_lineCount, y_paragraphs, (gd_tI t), (gd_tI w), (gd_lI lg), (gd_kI kn), b_patA, b_patB, b_patC, b_patDigits, b_glyphs, b_glyphOf, b_bEnd, b_bNext, b_bHyphen, b_least, b_before, b_way, b_lFrom, b_lTo, b_lNumber, b_lParagraph, b_lPage, b_lHyphen, b_lLast, b_best) (nI a) (nI b) := by
    intro Q h
    exact br_f (nI_pos (by omega)) (br_f (nI_ge (by omega) (by omega)) (br_t (nI_le (by omega) (by omega)) h))
  refine sp_x (by omega) (by omega) C.2.1 (fun h => enter _ (sp_y hn (by omega) (by omega) C.2.1 (fun _ => ⟨rfl, B' _ _ _ _ _⟩) (fun h2 => absurd h2 h))) (fun h a_heads a_glyphs => enter _ (sp_y hn (by omega) (by omega) C.2.1 (fun h2 => absurd h h2) (fun _ y_glyphCount b_glyphs b_glyphOf => ⟨rfl, B' _ _ _ _ _⟩)))
