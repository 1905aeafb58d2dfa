/-! the relation -/
/-- what a set text holds, on X's side and on Y's -/
def rl_x (t w lg : Nat → Nat) (kn : Nat → Int) (P : Nat → Nat) (n sw ss sk fw rw fl ba hyc ph : Nat) (x_lineCount x_paragraphCount : Int32) (a_lineFacts : Nat → Int32) (a_paragraphDemerits : Nat → Int64) : Prop :=
  x_lineCount = nI (ly_at t w lg kn P n sw ss sk fw rw fl ba hyc (n + 1)).1.2.1 ∧ x_paragraphCount = nI (ly_at t w lg kn P n sw ss sk fw rw fl ba hyc (n + 1)).1.2.2.1 ∧ lx_ok t lg w kn sw ss sk fw rw fl (ly_at t w lg kn P n sw ss sk fw rw fl ba hyc (n + 1)).1 a_lineFacts a_paragraphDemerits ∧
  ∀ k, k < (ly_at t w lg kn P n sw ss sk fw rw fl ba hyc (n + 1)).1.2.1 → a_lineFacts (8 * k + 6) = nI (pe_f (ly_at t w lg kn P n sw ss sk fw rw fl ba hyc (n + 1)).1.1 (ly_at t w lg kn P n sw ss sk fw rw fl ba hyc (n + 1)).1.2.1 ph 49 0 0 k)
def rl_y (t w lg : Nat → Nat) (kn : Nat → Int) (P : Nat → Nat) (n sw ss sk fw rw fl ba hyc ph : Nat) (y_lineCount y_paragraphs : Int32) (b_lFrom b_lTo b_lNumber b_lParagraph b_lPage b_lHyphen b_lLast : Nat → Int32) (b_best : Nat → Int64) : Prop :=
  y_lineCount = nI (ly_at t w lg kn P n sw ss sk fw rw fl ba hyc (n + 1)).1.2.1 ∧ y_paragraphs = nI (ly_at t w lg kn P n sw ss sk fw rw fl ba hyc (n + 1)).1.2.2.1 ∧ yy_ok (ly_at t w lg kn P n sw ss sk fw rw fl ba hyc (n + 1)).1 b_lFrom b_lTo b_lNumber b_lParagraph b_lHyphen b_lLast b_best ∧
  ∀ k, k < (ly_at t w lg kn P n sw ss sk fw rw fl ba hyc (n + 1)).1.2.1 → b_lPage k = nI (pe_f (ly_at t w lg kn P n sw ss sk fw rw fl ba hyc (n + 1)).1.1 (ly_at t w lg kn P n sw ss sk fw rw fl ba hyc (n + 1)).1.2.1 ph 49 0 0 k)
def rl_B (k : Nat) (n lc pc fw rw fl sw ss sk ba hyc ph : Nat) (t w lg : Nat → Nat) (kn : Nat → Int) (P pa pb pq pd : Nat → Nat) (x_lineCount x_paragraphCount x_stale : Int32) (a_lineFacts : Nat → Int32) (a_paragraphDemerits : Nat → Int64) (y_ready y_lineCount y_paragraphs : Int32) (b_patA b_patB b_patC b_patDigits b_lFrom b_lTo b_lNumber b_lParagraph b_lPage b_lHyphen b_lLast : Nat → Int32) (b_best : Nat → Int64) : Prop :=
  cf_ok t w lg kn n fw rw fl sw ss sk ba hyc ph ∧ (-(k : Int) ≤ (nI lc).toInt ∧ (nI lc).toInt ≤ 8) ∧ pt_ok P pc b_patA b_patB b_patC b_patDigits pa pb pq pd ∧
  ((x_stale = 1 ∧ y_ready = 0) ∨ (x_stale = 0 ∧ y_ready = 1 ∧ rl_x t w lg kn P n sw ss sk fw rw fl ba hyc ph x_lineCount x_paragraphCount a_lineFacts a_paragraphDemerits ∧ rl_y t w lg kn P n sw ss sk fw rw fl ba hyc ph y_lineCount y_paragraphs b_lFrom b_lTo b_lNumber b_lParagraph b_lPage b_lHyphen b_lLast b_best))
/-- the two desks hold the same settings and text; where they are set, the same lines, pages and demerits -/
def i_Rel (k : Nat) (u : SX) (v : SY) : Prop := ∃ n lc pc fw rw fl sw ss sk ba hyc ph t w lg kn P pa pb pq pd x_breakCount x_lineCount x_paragraphCount x_stale a_heads a_glyphs a_breakEnd a_breakNext a_breakHyphen a_breakTaken a_wayDemerits a_wayBefore a_lineFacts a_paragraphDemerits y_ready y_glyphCount y_breaks y_natural y_spaces y_lineCount y_paragraphs b_patA b_patB b_patC b_patDigits b_glyphs b_glyphOf b_bEnd b_bNext b_bHyphen b_least b_before b_way b_lFrom b_lTo b_lNumber b_lParagraph b_lPage b_lHyphen b_lLast b_best, u = ((nI n), (nI lc), (nI pc), (nI fw), (nI rw), (nI fl), (nI sw), (nI ss), (nI sk), (nI ba), (nI hyc), (nI ph), x_breakCount, x_lineCount, x_paragraphCount, x_stale, (gd_tI t), (gd_tI w), (gd_lI lg), (gd_kI kn), (gd_tI P), a_heads, a_glyphs, a_breakEnd, a_breakNext, a_breakHyphen, a_breakTaken, a_wayDemerits, a_wayBefore, a_lineFacts, a_paragraphDemerits) ∧ v = ((nI n), (nI lc), (nI pc), (nI fw), (nI rw), (nI fl), (nI sw), (nI ss), (nI sk), (nI ba), (nI hyc), (nI ph), y_ready, y_glyphCount, y_breaks, y_natural, y_spaces, y_lineCount, y_paragraphs, (gd_tI t), (gd_tI w), (gd_lI lg), (gd_kI kn), b_patA, b_patB, b_patC, b_patDigits, b_glyphs, b_glyphOf, b_bEnd, b_bNext, b_bHyphen, b_least, b_before, b_way, b_lFrom, b_lTo, b_lNumber, b_lParagraph, b_lPage, b_lHyphen, b_lLast, b_best) ∧ rl_B k n lc pc fw rw fl sw ss sk ba hyc ph t w lg kn P pa pb pq pd x_lineCount x_paragraphCount x_stale a_lineFacts a_paragraphDemerits y_ready y_lineCount y_paragraphs b_patA b_patB b_patC b_patDigits b_lFrom b_lTo b_lNumber b_lParagraph b_lPage b_lHyphen b_lLast b_best
theorem i_up {k : Nat} {u : SX} {v : SY} (h : i_Rel k u v) : i_Rel (k + 5) u v := by
  obtain ⟨n, lc, pc, fw, rw, fl, sw, ss, sk, ba, hyc, ph, t, w, lg, kn, P, pa, pb, pq, pd, x_breakCount, x_lineCount, x_paragraphCount, x_stale, a_heads, a_glyphs, a_breakEnd, a_breakNext, a_breakHyphen, a_breakTaken, a_wayDemerits, a_wayBefore, a_lineFacts, a_paragraphDemerits, y_ready, y_glyphCount, y_breaks, y_natural, y_spaces, y_lineCount, y_paragraphs, b_patA, b_patB, b_patC, b_patDigits, b_glyphs, b_glyphOf, b_bEnd, b_bNext, b_bHyphen, b_least, b_before, b_way, b_lFrom, b_lTo, b_lNumber, b_lParagraph, b_lPage, b_lHyphen, b_lLast, b_best, e1, e2, C, L, R⟩ := h
  exact ⟨n, lc, pc, fw, rw, fl, sw, ss, sk, ba, hyc, ph, t, w, lg, kn, P, pa, pb, pq, pd, x_breakCount, x_lineCount, x_paragraphCount, x_stale, a_heads, a_glyphs, a_breakEnd, a_breakNext, a_breakHyphen, a_breakTaken, a_wayDemerits, a_wayBefore, a_lineFacts, a_paragraphDemerits, y_ready, y_glyphCount, y_breaks, y_natural, y_spaces, y_lineCount, y_paragraphs, b_patA, b_patB, b_patC, b_patDigits, b_glyphs, b_glyphOf, b_bEnd, b_bNext, b_bHyphen, b_least, b_before, b_way, b_lFrom, b_lTo, b_lNumber, b_lParagraph, b_lPage, b_lHyphen, b_lLast, b_best, e1, e2, C, ⟨by have := L.1; omega, L.2⟩, R⟩
section
variable {n lc pc fw rw fl sw ss sk ba hyc ph : Nat} {t w lg : Nat → Nat} {kn : Nat → Int}
variable {P pa pb pq pd : Nat → Nat} {k : Nat}
variable {x_breakCount x_lineCount x_paragraphCount x_stale : Int32} {a_patterns a_heads a_glyphs a_breakEnd a_breakNext a_breakHyphen a_breakTaken a_wayBefore a_lineFacts : Nat → Int32} {a_wayDemerits a_paragraphDemerits : Nat → Int64}
variable {y_ready y_glyphCount y_breaks y_natural y_spaces y_lineCount y_paragraphs : Int32} {b_patA b_patB b_patC b_patDigits b_glyphs b_glyphOf b_bEnd b_bNext b_bHyphen b_before b_way b_lFrom b_lTo b_lNumber b_lParagraph b_lPage b_lHyphen b_lLast : Nat → Int32} {b_least b_best : Nat → Int64}
theorem rl_mk (h : rl_B k n lc pc fw rw fl sw ss sk ba hyc ph t w lg kn P pa pb pq pd x_lineCount x_paragraphCount x_stale a_lineFacts a_paragraphDemerits y_ready y_lineCount y_paragraphs b_patA b_patB b_patC b_patDigits b_lFrom b_lTo b_lNumber b_lParagraph b_lPage b_lHyphen b_lLast b_best) : i_Rel k ((nI n), (nI lc), (nI pc), (nI fw), (nI rw), (nI fl), (nI sw), (nI ss), (nI sk), (nI ba), (nI hyc), (nI ph), x_breakCount, x_lineCount, x_paragraphCount, x_stale, (gd_tI t), (gd_tI w), (gd_lI lg), (gd_kI kn), (gd_tI P), a_heads, a_glyphs, a_breakEnd, a_breakNext, a_breakHyphen, a_breakTaken, a_wayDemerits, a_wayBefore, a_lineFacts, a_paragraphDemerits) ((nI n), (nI lc), (nI pc), (nI fw), (nI rw), (nI fl), (nI sw), (nI ss), (nI sk), (nI ba), (nI hyc), (nI ph), y_ready, y_glyphCount, y_breaks, y_natural, y_spaces, y_lineCount, y_paragraphs, (gd_tI t), (gd_tI w), (gd_lI lg), (gd_kI kn), b_patA, b_patB, b_patC, b_patDigits, b_glyphs, b_glyphOf, b_bEnd, b_bNext, b_bHyphen, b_least, b_before, b_way, b_lFrom, b_lTo, b_lNumber, b_lParagraph, b_lPage, b_lHyphen, b_lLast, b_best) := ⟨n, lc, pc, fw, rw, fl, sw, ss, sk, ba, hyc, ph, t, w, lg, kn, P, pa, pb, pq, pd, x_breakCount, x_lineCount, x_paragraphCount, x_stale, a_heads, a_glyphs, a_breakEnd, a_breakNext, a_breakHyphen, a_breakTaken, a_wayDemerits, a_wayBefore, a_lineFacts, a_paragraphDemerits, y_ready, y_glyphCount, y_breaks, y_natural, y_spaces, y_lineCount, y_paragraphs, b_patA, b_patB, b_patC, b_patDigits, b_glyphs, b_glyphOf, b_bEnd, b_bNext, b_bHyphen, b_least, b_before, b_way, b_lFrom, b_lTo, b_lNumber, b_lParagraph, b_lPage, b_lHyphen, b_lLast, b_best, rfl, rfl, h⟩
end
/-! comparisons with a literal -/
theorem wi_le {x y : Int32} {A B : Prop} (b : Int) (f : x.toInt ≤ b → A) (g : b < x.toInt → B) (hb : y.toInt = b := by decide) : (x ≤ y → A) ∧ (¬ x ≤ y → B) := by
  rw [Int32.le_iff_toInt_le, hb]; exact ⟨f, fun z => g (by omega)⟩
theorem wi_lt {x y : Int32} {A B : Prop} (b : Int) (f : x.toInt < b → A) (g : b ≤ x.toInt → B) (hb : y.toInt = b := by decide) : (x < y → A) ∧ (¬ x < y → B) := by
  rw [Int32.lt_iff_toInt_lt, hb]; exact ⟨f, fun z => g (by omega)⟩
theorem wi_ge {x y : Int32} {A B : Prop} (b : Int) (f : b ≤ x.toInt → A) (g : x.toInt < b → B) (hb : y.toInt = b := by decide) : (y ≤ x → A) ∧ (¬ y ≤ x → B) := by
  rw [Int32.le_iff_toInt_le, hb]; exact ⟨f, fun z => g (by omega)⟩
theorem wi_gt {x y : Int32} {A B : Prop} (b : Int) (f : b < x.toInt → A) (g : x.toInt ≤ b → B) (hb : y.toInt = b := by decide) : (y < x → A) ∧ (¬ y < x → B) := by
  rw [Int32.lt_iff_toInt_lt, hb]; exact ⟨f, fun z => g (by omega)⟩
theorem wi_eq {x y : Int32} {A B : Prop} (b : Int) (f : x.toInt = b → A) (g : x.toInt ≠ b → B) (hb : y.toInt = b := by decide) : (x = y → A) ∧ (¬ x = y → B) := by
  rw [← Int32.toInt_inj, hb]; exact ⟨f, g⟩
theorem wi_n {x : Int32} (h : 0 ≤ x.toInt) : x = nI x.toInt.toNat := by
  apply Int32.toInt_inj.mp
  have := x.toInt_lt
  rw [nI_toInt (by omega)]
  omega
theorem wi_z {x : Int32} : x = gd_iI x.toInt := (Int32.ofInt_toInt x).symm
theorem wx_in {post : Int32 → Prop} {x a b : Int32} (c d : Int) (hp : post (gd_bI (decide (c ≤ x.toInt ∧ x.toInt ≤ d)))) (ha : a.toInt = c := by decide) (hb : b.toInt = d := by decide) : wpX_within post x a b := by
  refine wi_lt c (fun y => ?_) (fun y => wi_gt d (fun y2 => ?_) (fun y2 => ?_) hb) ha
  · rw [decide_eq_false (by omega)] at hp; exact hp
  · rw [decide_eq_false (by omega)] at hp; exact hp
  · rw [decide_eq_true ⟨y, y2⟩] at hp; exact hp
theorem wx_pair {post : Int32 → Prop} {x y : Int32} (hp : post (gd_bI (decide (0 ≤ x.toInt ∧ x.toInt ≤ 9 ∧ 0 ≤ y.toInt ∧ y.toInt ≤ 9)))) : wpX_isPair post x y := by
  refine wi_lt 0 (fun a => ?_) (fun a => wi_ge 10 (fun b => ?_) (fun b => wi_lt 0 (fun c => ?_) (fun c => wi_ge 10 (fun d => ?_) (fun d => ?_))))
  · rw [decide_eq_false (by omega)] at hp; exact hp
  · rw [decide_eq_false (by omega)] at hp; exact hp
  · rw [decide_eq_false (by omega)] at hp; exact hp
  · rw [decide_eq_false (by omega)] at hp; exact hp
  · rw [decide_eq_true ⟨a, by omega, c, by omega⟩] at hp; exact hp
section
variable {n lc pc fw rw fl sw ss sk ba hyc ph : Nat} {t w lg : Nat → Nat} {kn : Nat → Int}
variable {y_ready y_glyphCount y_breaks y_natural y_spaces y_lineCount y_paragraphs : Int32} {b_patA b_patB b_patC b_patDigits b_glyphs b_glyphOf b_bEnd b_bNext b_bHyphen b_before b_way b_lFrom b_lTo b_lNumber b_lParagraph b_lPage b_lHyphen b_lLast : Nat → Int32} {b_least b_best : Nat → Int64}
theorem wy_let {post : Int32 → Prop} {x : Int32} (hp : post (gd_bI (decide (0 ≤ x.toInt ∧ x.toInt ≤ 9)))) : wpY_letter post ((nI n), (nI lc), (nI pc), (nI fw), (nI rw), (nI fl), (nI sw), (nI ss), (nI sk), (nI ba), (nI hyc), (nI ph), y_ready, y_glyphCount, y_breaks, y_natural, y_spaces, y_lineCount, y_paragraphs, (gd_tI t), (gd_tI w), (gd_lI lg), (gd_kI kn), b_patA, b_patB, b_patC, b_patDigits, b_glyphs, b_glyphOf, b_bEnd, b_bNext, b_bHyphen, b_least, b_before, b_way, b_lFrom, b_lTo, b_lNumber, b_lParagraph, b_lPage, b_lHyphen, b_lLast, b_best) x := by
  refine wi_lt 0 (fun a => ?_) (fun a => wi_ge 10 (fun b => ?_) (fun b => ?_))
  · rw [decide_eq_false (by omega)] at hp; exact hp
  · rw [decide_eq_false (by omega)] at hp; exact hp
  · rw [decide_eq_true ⟨a, by omega⟩] at hp; exact hp
end
