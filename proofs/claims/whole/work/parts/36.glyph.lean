section
variable {t lg w : Nat → Nat} {kn : Nat → Int} {sw s : Nat}
theorem sh_hd_l {i : Nat} (hl : t i < 10) : t (sh_hd t lg s i) < 10 ∧ sh_jn t lg s (sh_hd t lg s i) = false := by
  induction i with
  | zero => exact ⟨hl, rfl⟩
  | succ i ih =>
    cases z : sh_jn t lg s (i + 1)
    · rw [sh_hd_n z]; exact ⟨hl, z⟩
    · rw [sh_hd_j z]; exact ih ((sh_jn_s i).mp z).2.1
theorem rn_scm {i j : Nat} (h : i ≤ j) : rn_sc t s i ≤ rn_sc t s j := by
  induction j with
  | zero => rw [show i = 0 by omega]; exact Nat.le_refl _
  | succ j ih =>
    by_cases e : i = j + 1
    · rw [e]; exact Nat.le_refl _
    · have := ih (by omega)
      rw [rn_sc]; split <;> omega
theorem rn_trunc {e to : Nat} (h3 : e ≤ to) (h4 : e = to ∨ ¬ t e < 10) : ∀ i, i ≤ e → rn_x t lg w kn sw s to i = rn_x t lg w kn sw s e i := by
  intro i
  induction i with
  | zero => intro _; rfl
  | succ i ih =>
    intro h
    have ih := ih (by omega)
    rw [rn_x, rn_x, ih]
    by_cases c : i < s
    · rw [if_pos c, if_pos c]
    · rw [if_neg c, if_neg c]
      have f1 : sh_fe t lg s to i = sh_fe t lg s e i := sh_fe_w (Nat.le_refl _) (Or.inl rfl) (by omega) (by omega) h3 h4
      have g1 : rn_gp t lg kn sw s to i = rn_gp t lg kn sw s e i := by
        rw [rn_gp, rn_gp, f1]
        by_cases c2 : s < i
        · rw [if_pos c2, if_pos c2, sh_fe_w (s2 := s) (i := i - 1) (Nat.le_refl _) (Or.inl rfl) (by omega) (by omega) h3 h4]
        · rw [if_neg c2, if_neg c2]
      rw [f1, g1]
/-- a head within a word of the line -/
theorem rn_pos {s2 e to g : Nat} (hs : s ≤ s2) (h0 : s2 = s ∨ ¬ t (s2 - 1) < 10) (hl : ∀ i, s2 ≤ i → i < e → t i < 10) (h3 : e ≤ to) (h4 : e = to ∨ ¬ t e < 10) (hg1 : s2 ≤ g) (hg2 : g < e) :
    rn_x t lg w kn sw s to g + rn_gp t lg kn sw s to g = rn_x t lg w kn sw s to s2 + rn_gp t lg kn sw s to s2 + (rn_x t lg w kn sw s2 e g + rn_gp t lg kn sw s2 e g) := by
  by_cases c : g = s2
  · subst c
    rw [rn_x0 (s := g) (Nat.le_refl _), show rn_gp t lg kn sw g e g = 0 by rw [rn_gp, if_neg (by omega)]]
    omega
  · obtain ⟨d, rfl⟩ : ∃ d, g = s2 + d + 1 := ⟨g - s2 - 1, by omega⟩
    have h5 := rn_word (lg := lg) (w := w) (kn := kn) (sw := sw) hs h0 hl h3 h4 d (by omega)
    have h6 : rn_gp t lg kn sw s to (s2 + d + 1) = rn_gp t lg kn sw s2 e (s2 + d + 1) := by
      have l2 : t (s2 + d + 1 - 1) < 10 := hl _ (by omega) (by omega)
      rw [rn_gp, rn_gp, if_pos (show s < s2 + d + 1 by omega), if_pos (show s2 < s2 + d + 1 by omega), if_pos l2, if_pos l2, sh_fe_w hs h0 (by omega) (by omega) h3 h4, sh_fe_w hs h0 (by omega) (by omega) h3 h4]
    rw [h5, h6]
    omega
theorem sh_hd_w {s2 e i : Nat} (hs : s ≤ s2) (h0 : s2 = s ∨ ¬ t (s2 - 1) < 10) (h1 : s2 ≤ i) : sh_hd t lg s i = sh_hd t lg s2 i := by
  obtain ⟨d, rfl⟩ : ∃ d, i = s2 + d := ⟨i - s2, by omega⟩
  clear h1
  induction d with
  | zero =>
    have j1 : sh_jn t lg s s2 = false := by rw [sh_jn_w hs h0 (Nat.le_refl _)]; exact sh_jn_0 (Nat.le_refl _)
    rw [Nat.add_zero, sh_hd_n j1, sh_hd_n (sh_jn_0 (Nat.le_refl _))]
  | succ d ih =>
    show sh_hd t lg s (s2 + d + 1) = sh_hd t lg s2 (s2 + d + 1)
    rw [sh_hd, sh_hd, ih, sh_jn_w hs h0 (by omega)]
end
/-- the word about letter i within a line -/
def wl_ok (t : Nat → Nat) (r : lt_R) (i s2 e2 : Nat) : Prop := r.1 ≤ s2 ∧ s2 ≤ i ∧ i < e2 ∧ e2 ≤ r.2.1 ∧ (∀ j, s2 ≤ j → j < e2 → t j < 10) ∧ (s2 = r.1 ∨ ¬ t (s2 - 1) < 10) ∧ (e2 = r.2.1 ∨ ¬ t e2 < 10)
section
variable {n lc pc fw rw fl sw ss sk ba hyc ph : Nat} {t w lg : Nat → Nat} {kn : Nat → Int}
variable {P pa pb pq pd : Nat → Nat} {k lnc : Nat} {Λ : lt_T}
variable {x_breakCount x_lineCount x_paragraphCount x_stale : Int32} {a_patterns a_heads a_glyphs a_breakEnd a_breakNext a_breakHyphen a_breakTaken a_wayBefore a_lineFacts : Nat → Int32} {a_wayDemerits a_paragraphDemerits : Nat → Int64}
variable {y_ready y_glyphCount y_breaks y_natural y_spaces y_lineCount y_paragraphs : Int32} {b_patA b_patB b_patC b_patDigits b_glyphs b_glyphOf b_bEnd b_bNext b_bHyphen b_before b_way b_lFrom b_lTo b_lNumber b_lParagraph b_lPage b_lHyphen b_lLast : Nat → Int32} {b_least b_best : Nat → Int64}
theorem gl_x {post : Int32 → SX → Prop} {i : Nat} (C : cf_ok t w lg kn n fw rw fl sw ss sk ba hyc ph) (hl : lnc ≤ 48) (hi : i < n) (hli : t i < 10) (V : ∀ q, q < lnc → lt_val t n (Λ q)) (cov : ∃ q, q < lnc ∧ (Λ q).1 ≤ i ∧ i < (Λ q).2.1) (X : (xl_ok t lg w kn sw ss sk fw rw fl) lnc Λ a_lineFacts)
    (hp : ∀ q a_heads a_glyphs, q < lnc → (Λ q).1 ≤ i → i < (Λ q).2.1 → (∀ j, j < q → ¬ ((Λ j).1 ≤ i ∧ i < (Λ j).2.1)) → xs_ok t lg (Λ q).1 (Λ q).2.1 a_heads a_glyphs → post (nI q) ((nI n), (nI lc), (nI pc), (nI fw), (nI rw), (nI fl), (nI sw), (nI ss), (nI sk), (nI ba), (nI hyc), (nI ph), x_breakCount, (nI lnc), x_paragraphCount, x_stale, (gd_tI t), (gd_tI w), (gd_lI lg), (gd_kI kn), a_patterns, a_heads, a_glyphs, a_breakEnd, a_breakNext, a_breakHyphen, a_breakTaken, a_wayDemerits, a_wayBefore, a_lineFacts, a_paragraphDemerits)) : wpX_shapeLineAt post ((nI n), (nI lc), (nI pc), (nI fw), (nI rw), (nI fl), (nI sw), (nI ss), (nI sk), (nI ba), (nI hyc), (nI ph), x_breakCount, (nI lnc), x_paragraphCount, x_stale, (gd_tI t), (gd_tI w), (gd_lI lg), (gd_kI kn), a_patterns, a_heads, a_glyphs, a_breakEnd, a_breakNext, a_breakHyphen, a_breakTaken, a_wayDemerits, a_wayBefore, a_lineFacts, a_paragraphDemerits) (nI i) := by
  have hn := C.1
  have ht := C.2.1
  have loop : ∀ d q, q + d = lnc → (∀ j, j < q → ¬ ((Λ j).1 ≤ i ∧ i < (Λ j).2.1)) → wX_shapeLineAt_27 post (nI i) (nI n) (nI lc) (nI pc) (nI fw) (nI rw) (nI fl) (nI sw) (nI ss) (nI sk) (nI ba) (nI hyc) (nI ph) x_breakCount (nI lnc) x_paragraphCount x_stale (gd_tI t) (gd_tI w) (gd_lI lg) (gd_kI kn) a_patterns a_heads a_glyphs a_breakEnd a_breakNext a_breakHyphen a_breakTaken a_wayDemerits a_wayBefore a_lineFacts a_paragraphDemerits (d + 1) (nI q) := by
    intro d
    induction d with
    | zero =>
      intro q hq hno
      obtain ⟨j, a, b, c⟩ := cov
      exact absurd ⟨b, c⟩ (hno j (by omega))
    | succ d ih =>
      intro q hq hno
      obtain ⟨f0, f1, _⟩ := X q (by omega)
      obtain ⟨w1, w2, w3, w4, w5, w6⟩ := V q (by omega)
      have e0 : nI q * 8 + 0 = nI (8 * q + 0) := by rw [show (8 : Int32) = nI 8 from rfl, show (0 : Int32) = nI 0 from rfl, pk_mul, nI_add, Nat.mul_comm]
      have e1 : nI q * 8 + 1 = nI (8 * q + 1) := by rw [show (8 : Int32) = nI 8 from rfl, pk_mul, nI_1, Nat.mul_comm]
      have next : ¬ ((Λ q).1 ≤ i ∧ i < (Λ q).2.1) → wX_shapeLineAt_27 post (nI i) (nI n) (nI lc) (nI pc) (nI fw) (nI rw) (nI fl) (nI sw) (nI ss) (nI sk) (nI ba) (nI hyc) (nI ph) x_breakCount (nI lnc) x_paragraphCount x_stale (gd_tI t) (gd_tI w) (gd_lI lg) (gd_kI kn) a_patterns a_heads a_glyphs a_breakEnd a_breakNext a_breakHyphen a_breakTaken a_wayDemerits a_wayBefore a_lineFacts a_paragraphDemerits (d + 1) (nI (q + 1)) := by
        intro h
        refine ih (q + 1) (by omega) (fun j hj => ?_)
        by_cases z : j = q
        · rw [z]; exact h
        · exact hno j (by omega)
      refine br_f (nI_ge (by omega) (by omega)) ⟨pk_in (8 * q + 0) 384 (by omega) e0, nm_r (e' := nI (Λ q).1) (by rw [e0, nI_clamp (by omega), f0]) ⟨pk_in (8 * q + 1) 384 (by omega) e1, nm_r (e' := nI (Λ q).2.1) (by rw [e1, nI_clamp (by omega), f1]) ?_⟩⟩
      refine pk_lt i (Λ q).1 (fun y => nm_r (nI_1 q) (next (by omega))) (fun y => pk_le (Λ q).2.1 i (fun y2 => nm_r (nI_1 q) (next (by omega))) (fun y2 => ?_))
      exact xs_shape (by omega) (by omega) ht (fun a_heads a_glyphs hok => hp q _ _ (by omega) y y2 hno hok)
  refine br_f (nI_pos (by omega)) (br_f (nI_ge (by omega) (by omega)) ⟨vp_in_nI (by omega) (by omega), pk_lt (t i) 10 (fun _ => ⟨lnc + 1, loop lnc 0 (by omega) (fun j hj => absurd hj (by omega))⟩) (fun y => absurd y (by omega)) (gd_rt (by omega)) rfl (by omega) (by omega)⟩)
theorem gl_xn {post : Int32 → SX → Prop} {x : Int32} (hn : n ≤ 48) (ht : ∀ i, t i ≤ 11) (h : ∀ i, i < n → t i < 10 → x ≠ nI i) (hp : post (-1) ((nI n), (nI lc), (nI pc), (nI fw), (nI rw), (nI fl), (nI sw), (nI ss), (nI sk), (nI ba), (nI hyc), (nI ph), x_breakCount, x_lineCount, x_paragraphCount, x_stale, (gd_tI t), (gd_tI w), (gd_lI lg), (gd_kI kn), a_patterns, a_heads, a_glyphs, a_breakEnd, a_breakNext, a_breakHyphen, a_breakTaken, a_wayDemerits, a_wayBefore, a_lineFacts, a_paragraphDemerits)) : wpX_shapeLineAt post ((nI n), (nI lc), (nI pc), (nI fw), (nI rw), (nI fl), (nI sw), (nI ss), (nI sk), (nI ba), (nI hyc), (nI ph), x_breakCount, x_lineCount, x_paragraphCount, x_stale, (gd_tI t), (gd_tI w), (gd_lI lg), (gd_kI kn), a_patterns, a_heads, a_glyphs, a_breakEnd, a_breakNext, a_breakHyphen, a_breakTaken, a_wayDemerits, a_wayBefore, a_lineFacts, a_paragraphDemerits) x := by
  refine br_c (fun _ => hp) (fun z => ?_)
  obtain ⟨i, hi, rfl⟩ := nI_of z
  refine pk_le n i (fun _ => hp) (fun y => ⟨vp_in_nI (by omega) (by omega), pk_lt (t i) 10 (fun y2 => absurd rfl (h i y y2)) (fun _ => hp) (gd_rt (by omega)) rfl (by have := ht i; omega) (by omega)⟩)
theorem gl_yn {post : Int32 → Prop} {x : Int32} (hn : n ≤ 48) (ht : ∀ i, t i ≤ 11) (h : ∀ i, i < n → t i < 10 → x ≠ nI i) (hp : post 0) : wpY_isLetter post ((nI n), (nI lc), (nI pc), (nI fw), (nI rw), (nI fl), (nI sw), (nI ss), (nI sk), (nI ba), (nI hyc), (nI ph), y_ready, y_glyphCount, y_breaks, y_natural, y_spaces, y_lineCount, y_paragraphs, (gd_tI t), (gd_tI w), (gd_lI lg), (gd_kI kn), b_patA, b_patB, b_patC, b_patDigits, b_glyphs, b_glyphOf, b_bEnd, b_bNext, b_bHyphen, b_least, b_before, b_way, b_lFrom, b_lTo, b_lNumber, b_lParagraph, b_lPage, b_lHyphen, b_lLast, b_best) x := by
  by_cases z : x < 0
  · exact yl_neg z hp
  · obtain ⟨i, hi, rfl⟩ := nI_of z
    refine yl_is hn hi ht ?_
    rw [decide_eq_false (fun q => absurd rfl (h i q.1 q.2))]
    exact hp
theorem gl_yl {post : Int32 → Prop} {i q : Nat} (hl : lnc ≤ 48) (hi : i < 2 ^ 31) (hq : q < lnc) (V : ∀ q, q < lnc → lt_val t n (Λ q)) (hn : n ≤ 48) (Y : yl_ok lnc Λ b_lFrom b_lTo b_lNumber b_lParagraph b_lHyphen b_lLast) (h1 : (Λ q).1 ≤ i) (h2 : i < (Λ q).2.1) (hno : ∀ j, j < q → ¬ ((Λ j).1 ≤ i ∧ i < (Λ j).2.1)) (hp : post (nI q)) : wpY_lineOf post ((nI n), (nI lc), (nI pc), (nI fw), (nI rw), (nI fl), (nI sw), (nI ss), (nI sk), (nI ba), (nI hyc), (nI ph), y_ready, y_glyphCount, y_breaks, y_natural, y_spaces, (nI lnc), y_paragraphs, (gd_tI t), (gd_tI w), (gd_lI lg), (gd_kI kn), b_patA, b_patB, b_patC, b_patDigits, b_glyphs, b_glyphOf, b_bEnd, b_bNext, b_bHyphen, b_least, b_before, b_way, b_lFrom, b_lTo, b_lNumber, b_lParagraph, b_lPage, b_lHyphen, b_lLast, b_best) (nI i) := by
  have loop : ∀ d j, j + d = q → wY_lineOf_2 post (nI i) (nI n) (nI lc) (nI pc) (nI fw) (nI rw) (nI fl) (nI sw) (nI ss) (nI sk) (nI ba) (nI hyc) (nI ph) y_ready y_glyphCount y_breaks y_natural y_spaces (nI lnc) y_paragraphs (gd_tI t) (gd_tI w) (gd_lI lg) (gd_kI kn) b_patA b_patB b_patC b_patDigits b_glyphs b_glyphOf b_bEnd b_bNext b_bHyphen b_least b_before b_way b_lFrom b_lTo b_lNumber b_lParagraph b_lPage b_lHyphen b_lLast b_best (d + 1) (nI j) := by
    intro d
    induction d with
    | zero =>
      intro j hj
      have : j = q := by omega
      subst this
      obtain ⟨r1, r2, _⟩ := Y j hq
      obtain ⟨w1, w2, _⟩ := V j hq
      have vi : vp_in (nI j) 48 := vp_in_nI (by omega) (by omega)
      refine br_f (nI_ge (by omega) (by omega)) ⟨vi, pk_lt i (Λ j).1 (fun y => absurd y (by omega)) (fun y => ⟨vi, pk_le (Λ j).2.1 i (fun y => absurd y (by omega)) (fun y => hp) (by rw [nI_clamp (by omega), r2]) rfl (by omega) hi⟩) rfl (by rw [nI_clamp (by omega), r1]) hi (by omega)⟩
    | succ d ih =>
      intro j hj
      obtain ⟨r1, r2, _⟩ := Y j (by omega)
      obtain ⟨w1, w2, _⟩ := V j (by omega)
      have vi : vp_in (nI j) 48 := vp_in_nI (by omega) (by omega)
      refine br_f (nI_ge (by omega) (by omega)) ⟨vi, pk_lt i (Λ j).1 (fun y => nm_r (nI_1 j) (ih (j + 1) (by omega))) (fun y => ⟨vi, pk_le (Λ j).2.1 i (fun y2 => nm_r (nI_1 j) (ih (j + 1) (by omega))) (fun y2 => absurd ⟨y, y2⟩ (hno j (by omega))) (by rw [nI_clamp (by omega), r2]) rfl (by omega) hi⟩) rfl (by rw [nI_clamp (by omega), r1]) hi (by omega)⟩
  exact ⟨q + 1, loop q 0 (by omega)⟩
theorem gl_ys {post : Int32 → SY → Prop} {i q : Nat} (C : cf_ok t w lg kn n fw rw fl sw ss sk ba hyc ph) (hl : lnc ≤ 48) (hi : i < n) (hli : t i < 10) (hq : q < lnc) (V : lt_val t n (Λ q)) (Y : yl_ok lnc Λ b_lFrom b_lTo b_lNumber b_lParagraph b_lHyphen b_lLast) (h1 : (Λ q).1 ≤ i) (h2 : i < (Λ q).2.1)
    (hp : ∀ s2 e2 y_glyphCount b_glyphs b_glyphOf, wl_ok t (Λ q) i s2 e2 → ys_ok t lg s2 e2 b_glyphs b_glyphOf → post (nI s2) ((nI n), (nI lc), (nI pc), (nI fw), (nI rw), (nI fl), (nI sw), (nI ss), (nI sk), (nI ba), (nI hyc), (nI ph), y_ready, y_glyphCount, y_breaks, y_natural, y_spaces, y_lineCount, y_paragraphs, (gd_tI t), (gd_tI w), (gd_lI lg), (gd_kI kn), b_patA, b_patB, b_patC, b_patDigits, b_glyphs, b_glyphOf, b_bEnd, b_bNext, b_bHyphen, b_least, b_before, b_way, b_lFrom, b_lTo, b_lNumber, b_lParagraph, b_lPage, b_lHyphen, b_lLast, b_best)) : wpY_shapeAt post ((nI n), (nI lc), (nI pc), (nI fw), (nI rw), (nI fl), (nI sw), (nI ss), (nI sk), (nI ba), (nI hyc), (nI ph), y_ready, y_glyphCount, y_breaks, y_natural, y_spaces, y_lineCount, y_paragraphs, (gd_tI t), (gd_tI w), (gd_lI lg), (gd_kI kn), b_patA, b_patB, b_patC, b_patDigits, b_glyphs, b_glyphOf, b_bEnd, b_bNext, b_bHyphen, b_least, b_before, b_way, b_lFrom, b_lTo, b_lNumber, b_lParagraph, b_lPage, b_lHyphen, b_lLast, b_best) (nI q) (nI i) := by
  have hn := C.1
  have ht := C.2.1
  obtain ⟨r1, r2, _⟩ := Y q hq
  obtain ⟨w1, w2, w3, w4, w5, w6⟩ := V
  obtain ⟨a1, a2, a3⟩ := wd_s_ok (t := t) (n := n) i
  obtain ⟨b1, b2, b3⟩ := wd_E_ok (t := t) (n := n) i
  have b4 := wd_E_ge (t := t) (n := n) ⟨hi, hli⟩
  have b5 := wd_E_le (t := t) (show i ≤ n by omega)
  have vi : vp_in (nI q) 48 := vp_in_nI (by omega) (by omega)
  have cl : (nI q).toNatClampNeg = q := nI_clamp (by omega)
  have fin : ∀ s2 e2, wl_ok t (Λ q) i s2 e2 → wY_shapeAt_49 post (nI s2) (nI e2) (nI n) (nI lc) (nI pc) (nI fw) (nI rw) (nI fl) (nI sw) (nI ss) (nI sk) (nI ba) (nI hyc) (nI ph) y_ready y_glyphCount y_breaks y_natural y_spaces y_lineCount y_paragraphs (gd_tI t) (gd_tI w) (gd_lI lg) (gd_kI kn) b_patA b_patB b_patC b_patDigits b_glyphs b_glyphOf b_bEnd b_bNext b_bHyphen b_least b_before b_way b_lFrom b_lTo b_lNumber b_lParagraph b_lPage b_lHyphen b_lLast b_best := by
    intro s2 e2 h
    obtain ⟨g1, g2, g3, g4, g5, g6, g7⟩ := id h
    unfold wY_shapeAt_49
    exact ys_shape (by omega) (by omega) ht g5 (fun b_glyphs b_glyphOf hok => hp s2 e2 _ _ _ h hok)
  have st2 : ∀ s2, (Λ q).1 ≤ s2 → s2 ≤ i → (∀ j, s2 ≤ j → j < i → t j < 10) → (s2 = (Λ q).1 ∨ ¬ t (s2 - 1) < 10) → wY_shapeAt_23 post (nI q) (nI i) (nI s2) (nI n) (nI lc) (nI pc) (nI fw) (nI rw) (nI fl) (nI sw) (nI ss) (nI sk) (nI ba) (nI hyc) (nI ph) y_ready y_glyphCount y_breaks y_natural y_spaces y_lineCount y_paragraphs (gd_tI t) (gd_tI w) (gd_lI lg) (gd_kI kn) b_patA b_patB b_patC b_patDigits b_glyphs b_glyphOf b_bEnd b_bNext b_bHyphen b_least b_before b_way b_lFrom b_lTo b_lNumber b_lParagraph b_lPage b_lHyphen b_lLast b_best := by
    intro s2 c1 c2 c3 c4
    have lets : ∀ j, s2 ≤ j → j < wd_E t n i → t j < 10 := by
      intro j x y
      rcases Nat.lt_or_ge j i with z | z
      · exact c3 j x z
      · exact (b2 j z y).2
    unfold wY_shapeAt_23
    refine yl_end hn (by omega) ht ⟨vi, pk_le (wd_E t n i) (Λ q).2.1 (fun y => fin s2 _ ⟨c1, c2, b4, y, lets, c4, ?_⟩) (fun y => ⟨vi, nm_r (e' := nI (Λ q).2.1) (by rw [cl, r2]) (fin s2 _ ⟨c1, c2, h2, Nat.le_refl _, fun j x z => lets j x (by omega), c4, Or.inl rfl⟩)⟩) rfl (by rw [cl, r2]) (by omega) (by omega)⟩
    rcases Nat.lt_or_ge (wd_E t n i) (Λ q).2.1 with z | z
    · exact Or.inr (fun x => b3 ⟨by omega, x⟩)
    · exact Or.inl (by omega)
  unfold wpY_shapeAt
  refine yl_start hn (by omega) ht ⟨vi, pk_le (Λ q).1 (wd_s t n i) (fun y => st2 _ y a1 (fun j x z => (a2 j x z).2) ?_) (fun y => ⟨vi, nm_r (e' := nI (Λ q).1) (by rw [cl, r1]) (st2 _ (Nat.le_refl _) h1 (fun j x z => (a2 j (by omega) z).2) (Or.inl rfl))⟩) (by rw [cl, r1]) rfl (by omega) (by omega)⟩
  rcases a3 with a3 | a3
  · left; omega
  · exact Or.inr (fun x => a3 ⟨by omega, x⟩)
end
theorem i_vc_glyph {k : Nat} {u : SX} {v : SY} (I : i_Rel k u v) (hk : k + 5 ≤ 2560) (v1 : Int32) : wpX_glyph (fun r u' => wpY_glyph (fun r' v' => r' = r ∧ i_Rel (k + 5) u' v') v v1) u v1 := by
  refine rl_elim (Q := fun u v => wpX_glyph (fun r u' => wpY_glyph (fun r' v' => r' = r ∧ i_Rel (k + 5) u' v') v v1) u v1) I ?_
  intro n lc pc fw rw fl sw ss sk ba hyc ph t w lg kn P pa pb pq pd x_breakCount x_lineCount x_paragraphCount x_stale a_heads a_glyphs a_breakEnd a_breakNext a_breakHyphen a_breakTaken a_wayDemerits a_wayBefore a_lineFacts a_paragraphDemerits y_ready y_glyphCount y_breaks y_natural y_spaces y_lineCount y_paragraphs b_patA b_patB b_patC b_patDigits b_glyphs b_glyphOf b_bEnd b_bNext b_bHyphen b_least b_before b_way b_lFrom b_lTo b_lNumber b_lParagraph b_lPage b_lHyphen b_lLast b_best B
  obtain ⟨C, L, R, F⟩ := id B
  have hn := C.1
  obtain ⟨e1, e2, e3, e4, e5⟩ := ly_end (P := P) C
  unfold wpX_glyph
  refine lo_x B (fun x_breakCount x_lineCount x_paragraphCount a_heads a_glyphs a_breakEnd a_breakNext a_breakHyphen a_breakTaken a_wayDemerits a_wayBefore a_lineFacts a_paragraphDemerits rx => ?_)
  by_cases h : ∃ i, i < n ∧ t i < 10 ∧ v1 = nI i
  · obtain ⟨i, hi, hli, rfl⟩ := h
    have rx' := rx
    obtain ⟨x1, x2, x3, x4⟩ := rx
    subst x1
    refine gl_x C e1 hi hli e3 (e5 i hi hli) x3.1 (fun q a_heads a_glyphs hq h1 h2 hno hok => ?_)
    have V := e3 q hq
    have hd := sh_hd_le (t := t) (lg := lg) (s := ((ly_at t w lg kn P n sw ss sk fw rw fl ba hyc (n + 1)).1.1 q).1) i
    obtain ⟨o1, o2⟩ := hok i h1 h2 hli
    refine br_f (gd_nm1 (by omega)) ⟨vp_in_nI (by omega) (by omega), pk_in (sh_hd t lg ((ly_at t w lg kn P n sw ss sk fw rw fl ba hyc (n + 1)).1.1 q).1 i) 48 (by omega) (by rw [nI_clamp (by omega), o1]), ?_⟩
    rw [nI_clamp (show i < 2 ^ 31 by omega), o1, nI_clamp (show sh_hd t lg ((ly_at t w lg kn P n sw ss sk fw rw fl ba hyc (n + 1)).1.1 q).1 i < 2 ^ 31 by omega), o2]
    unfold wpY_glyph
    refine lo_y B (fun y_glyphCount y_breaks y_natural y_spaces y_lineCount y_paragraphs b_glyphs b_glyphOf b_bEnd b_bNext b_bHyphen b_least b_before b_way b_lFrom b_lTo b_lNumber b_lParagraph b_lPage b_lHyphen b_lLast b_best ry => ?_)
    have ry' := ry
    obtain ⟨y1, y2, y3, y4⟩ := ry
    subst y1
    refine yl_is hn (by omega) C.2.1 ?_
    rw [decide_eq_true ⟨hi, hli⟩]
    refine br_f (by decide) (gl_yl e1 (by omega) hq e3 hn y3.1 h1 h2 hno (gl_ys C e1 hi hli hq V y3.1 h1 h2 (fun s2 e2' y_glyphCount b_glyphs b_glyphOf hw hok2 => ?_)))
    obtain ⟨g1, g2, g3, g4, g5, g6, g7⟩ := hw
    have V2 := V.2.1
    obtain ⟨p1, p2⟩ := hok2 i g2 g3
    have ho := sh_od_le (t := t) (lg := lg) (s := s2) (i := i) g2
    refine ⟨vp_in_nI (by omega) (by omega), pk_in (sh_od t lg s2 i) 48 (by omega) (by rw [nI_clamp (by omega), p1]), ?_, rl_set C L R (by omega) rx' ry'⟩
    rw [nI_clamp (show i < 2 ^ 31 by omega), p1, nI_clamp (show sh_od t lg s2 i < 2 ^ 31 by omega), p2, sh_fe_w g1 g6 g2 g3 g4 g7]
  · have h' : ∀ i, i < n → t i < 10 → v1 ≠ nI i := fun i a b c => h ⟨i, a, b, c⟩
    refine gl_xn hn C.2.1 h' (br_t rfl ?_)
    unfold wpY_glyph
    refine lo_y B (fun y_glyphCount y_breaks y_natural y_spaces y_lineCount y_paragraphs b_glyphs b_glyphOf b_bEnd b_bNext b_bHyphen b_least b_before b_way b_lFrom b_lTo b_lNumber b_lParagraph b_lPage b_lHyphen b_lLast b_best ry => ?_)
    exact gl_yn hn C.2.1 h' (br_t rfl ⟨rfl, rl_set C L R (by omega) rx ry⟩)
